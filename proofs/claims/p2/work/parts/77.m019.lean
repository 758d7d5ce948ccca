def o_Mo_writeGroup_at_l5_0 : or_T := (2, 4, [(0, (2, 0, 0, [150])), (2, (0, 0, 99995604, [])), (3, (0, 0, 0, []))], [(20, [0, 2], [30, 0, 1, 1, 170, -1, 0, 0])], [], [], [(20, [0, 2, 3], [30, 0, 1, 1, 170, -1, 0, 0, -36, 0, 0]), (24, [0, 0], [])], [], [])
theorem oo_Mo_writeGroup_at_l5_0 {kA : Nat → ClassId} : or_ok kA GG o_Mo_writeGroup_at_l5_0 := by
  intro A ta ws vs hD hth hl hk hds hf
  have hl : vs.length = 4 := hl
  have hk : ∀ q ∈ ([(0, (2, 0, 0, [150])), (2, (0, 0, 99995604, [])), (3, (0, 0, 0, []))] : List (Nat × tv_T)), tv_ok ta q.2 (n_v vs q.1) := hk
  obtain ⟨t0, hk⟩ := List.forall_mem_cons.mp hk
  have t0 : tv_ok ta (2, 0, 0, [150]) (n_v vs 0) := t0
  have r0 : ta (v_ad (n_v vs 0)) = some 150 := tv_rg t0
  obtain ⟨t2, hk⟩ := List.forall_mem_cons.mp hk
  have t2 : tv_ok ta (0, 0, 99995604, []) (n_v vs 2) := t2
  have k2 : 0 ≤ v_iv (n_v vs 2) ∧ v_iv (n_v vs 2) ≤ 99995604 := tv_rng t2
  obtain ⟨t3, hk⟩ := List.forall_mem_cons.mp hk
  have t3 : tv_ok ta (0, 0, 0, []) (n_v vs 3) := t3
  have k3 : 0 ≤ v_iv (n_v vs 3) ∧ v_iv (n_v vs 3) ≤ 0 := tv_rng t3
  have hf : fc_ok [(20, [0, 2], [30, 0, 1, 1, 170, -1, 0, 0])] ta ws vs := hf
  obtain ⟨f0, hf⟩ := fc_un (show (20 : Nat) < 100 from by decide) hf
  have f0 : 1 * w_fi ws (n_v vs 0) 170 + ((-1) * v_iv (n_v vs 2) + 0) ≤ 0 := f0
  have kz_0_170 : 0 ≤ w_fi ws (n_v vs 0) 170 ∧ w_fi ws (n_v vs 0) 170 ≤ 100000000 := tv_rng (th_fd hD hth r0 (g := GG_150) rfl (k := 170) (t := (0, 0, 100000000, [])) rfl rfl)
  have nf0 : fc_1 (20, [0, 2, 3], [30, 0, 1, 1, 170, -1, 0, 0, -36, 0, 0]) ws (vs) := by
    refine ⟨fun n hn => ?_, ?_⟩
    · have hn : n ∈ [0, 2, 3] := hn
      rw [hl]
      simp only [List.mem_cons, List.not_mem_nil, or_false] at hn
      show n < 4; omega
    · show 1 * w_fi ws (n_v vs 0) 170 + ((-1) * v_iv (n_v vs 2) + ((-36) * v_iv (n_v vs 3) + 0)) ≤ 0
      omega
  have nf1 : fc_1 (24, [0, 0], []) ws (vs) := by
    refine ⟨fun n hn => ?_, ?_⟩
    · have hn : n ∈ [0, 0] := hn
      rw [hl]
      simp only [List.mem_cons, List.not_mem_nil, or_false] at hn
      show n < 4; omega
    · show n_v vs 0 = n_v vs 0
      first | rfl | simp only [true_and]
  refine ⟨(fun _ h => (by cases h)), [], trivial, ?_, (fun _ h => (by cases h))⟩
  rw [List.append_nil]
  exact List.forall_mem_cons.mpr ⟨⟨show (20 : Nat) < 100 from by decide, nf0⟩, List.forall_mem_cons.mpr ⟨⟨show (24 : Nat) < 100 from by decide, nf1⟩, (fun _ h => (by cases h))⟩⟩
def o_Mo_writeGroup_at_l5_1 : or_T := (83, 9, [(0, (2, 0, 0, [150])), (2, (0, 0, 99995604, [])), (3, (2, 0, 0, [150])), (4, (0, 5, 7, [])), (5, (0, 0, 24, [])), (6, (0, 0, 24, [])), (7, (0, 1, 1, [])), (8, (0, 6, 8, []))], [(1, [8, 4, 7], []), (7, [5, 6], [3]), (20, [6, 3], [30, 0, 1, 0, 0, -1, 3, 2005000]), (20, [6, 3], [30, 0, -1, 0, 0, 1, 3, 2005000]), (20, [3, 2, 5], [30, 0, 1, 1, 170, -1, 0, 0, -36, 0, 0]), (24, [0, 3], [])], [], [], [(20, [3, 2, 8, 4], [30, -902, 1, 1, 170, -1, 0, 0, -1766, 0, 0, 1766, 0, 0])], [], [(8, 4, 1, 1), (8, 2, -4294967296, 8), (8, 5, -4294967296, 8), (5, 6, 0, 4294967296), (4, 2, -4294967296, 7), (4, 5, -4294967296, 7)])
theorem oo_Mo_writeGroup_at_l5_1 {kA : Nat → ClassId} : or_ok kA GG o_Mo_writeGroup_at_l5_1 := by
  intro A ta ws vs hD hth hl hk hds hf
  have hl : vs.length = 9 := hl
  have hk : ∀ q ∈ ([(0, (2, 0, 0, [150])), (2, (0, 0, 99995604, [])), (3, (2, 0, 0, [150])), (4, (0, 5, 7, [])), (5, (0, 0, 24, [])), (6, (0, 0, 24, [])), (7, (0, 1, 1, [])), (8, (0, 6, 8, []))] : List (Nat × tv_T)), tv_ok ta q.2 (n_v vs q.1) := hk
  obtain ⟨t0, hk⟩ := List.forall_mem_cons.mp hk
  have t0 : tv_ok ta (2, 0, 0, [150]) (n_v vs 0) := t0
  have r0 : ta (v_ad (n_v vs 0)) = some 150 := tv_rg t0
  obtain ⟨t2, hk⟩ := List.forall_mem_cons.mp hk
  have t2 : tv_ok ta (0, 0, 99995604, []) (n_v vs 2) := t2
  have k2 : 0 ≤ v_iv (n_v vs 2) ∧ v_iv (n_v vs 2) ≤ 99995604 := tv_rng t2
  obtain ⟨t3, hk⟩ := List.forall_mem_cons.mp hk
  have t3 : tv_ok ta (2, 0, 0, [150]) (n_v vs 3) := t3
  have r3 : ta (v_ad (n_v vs 3)) = some 150 := tv_rg t3
  obtain ⟨t4, hk⟩ := List.forall_mem_cons.mp hk
  have t4 : tv_ok ta (0, 5, 7, []) (n_v vs 4) := t4
  have k4 : 5 ≤ v_iv (n_v vs 4) ∧ v_iv (n_v vs 4) ≤ 7 := tv_rng t4
  obtain ⟨t5, hk⟩ := List.forall_mem_cons.mp hk
  have t5 : tv_ok ta (0, 0, 24, []) (n_v vs 5) := t5
  have k5 : 0 ≤ v_iv (n_v vs 5) ∧ v_iv (n_v vs 5) ≤ 24 := tv_rng t5
  obtain ⟨t6, hk⟩ := List.forall_mem_cons.mp hk
  have t6 : tv_ok ta (0, 0, 24, []) (n_v vs 6) := t6
  have k6 : 0 ≤ v_iv (n_v vs 6) ∧ v_iv (n_v vs 6) ≤ 24 := tv_rng t6
  obtain ⟨t7, hk⟩ := List.forall_mem_cons.mp hk
  have t7 : tv_ok ta (0, 1, 1, []) (n_v vs 7) := t7
  have k7 : 1 ≤ v_iv (n_v vs 7) ∧ v_iv (n_v vs 7) ≤ 1 := tv_rng t7
  obtain ⟨t8, hk⟩ := List.forall_mem_cons.mp hk
  have t8 : tv_ok ta (0, 6, 8, []) (n_v vs 8) := t8
  have k8 : 6 ≤ v_iv (n_v vs 8) ∧ v_iv (n_v vs 8) ≤ 8 := tv_rng t8
  have hds : ∀ q ∈ ([(8, 4, 1, 1), (8, 2, -4294967296, 8), (8, 5, -4294967296, 8), (5, 6, 0, 4294967296), (4, 2, -4294967296, 7), (4, 5, -4294967296, 7)] : List of_T), n_iv vs q.2.1 + q.2.2.1 ≤ n_iv vs q.1 ∧ n_iv vs q.1 ≤ n_iv vs q.2.1 + q.2.2.2 := hds
  obtain ⟨d0, hds⟩ := List.forall_mem_cons.mp hds
  have d0 : v_iv (n_v vs 4) + 1 ≤ v_iv (n_v vs 8) ∧ v_iv (n_v vs 8) ≤ v_iv (n_v vs 4) + 1 := d0
  obtain ⟨d1, hds⟩ := List.forall_mem_cons.mp hds
  have d1 : v_iv (n_v vs 2) + (-4294967296) ≤ v_iv (n_v vs 8) ∧ v_iv (n_v vs 8) ≤ v_iv (n_v vs 2) + 8 := d1
  obtain ⟨d2, hds⟩ := List.forall_mem_cons.mp hds
  have d2 : v_iv (n_v vs 5) + (-4294967296) ≤ v_iv (n_v vs 8) ∧ v_iv (n_v vs 8) ≤ v_iv (n_v vs 5) + 8 := d2
  obtain ⟨d3, hds⟩ := List.forall_mem_cons.mp hds
  have d3 : v_iv (n_v vs 6) + 0 ≤ v_iv (n_v vs 5) ∧ v_iv (n_v vs 5) ≤ v_iv (n_v vs 6) + 4294967296 := d3
  obtain ⟨d4, hds⟩ := List.forall_mem_cons.mp hds
  have d4 : v_iv (n_v vs 2) + (-4294967296) ≤ v_iv (n_v vs 4) ∧ v_iv (n_v vs 4) ≤ v_iv (n_v vs 2) + 7 := d4
  obtain ⟨d5, hds⟩ := List.forall_mem_cons.mp hds
  have d5 : v_iv (n_v vs 5) + (-4294967296) ≤ v_iv (n_v vs 4) ∧ v_iv (n_v vs 4) ≤ v_iv (n_v vs 5) + 7 := d5
  have hf : fc_ok [(1, [8, 4, 7], []), (7, [5, 6], [3]), (20, [6, 3], [30, 0, 1, 0, 0, -1, 3, 2005000]), (20, [6, 3], [30, 0, -1, 0, 0, 1, 3, 2005000]), (20, [3, 2, 5], [30, 0, 1, 1, 170, -1, 0, 0, -36, 0, 0]), (24, [0, 3], [])] ta ws vs := hf
  obtain ⟨f0, hf⟩ := fc_un (show (1 : Nat) < 100 from by decide) hf
  have f0 : v_iv (n_v vs 8) = v_iv (n_v vs 4) + v_iv (n_v vs 7) := f0
  obtain ⟨f1, hf⟩ := fc_un (show (7 : Nat) < 100 from by decide) hf
  have f1 : v_iv (n_v vs 6) ≤ v_iv (n_v vs 5) := f1
  obtain ⟨f2, hf⟩ := fc_un (show (20 : Nat) < 100 from by decide) hf
  have f2 : 1 * v_iv (n_v vs 6) + ((-1) * w_el ws (w_ar ws (n_v vs 3) 2) (w_fi ws (n_v vs 3) 5 + 0).toNat + 0) ≤ 0 := f2
  obtain ⟨f3, hf⟩ := fc_un (show (20 : Nat) < 100 from by decide) hf
  have f3 : (-1) * v_iv (n_v vs 6) + (1 * w_el ws (w_ar ws (n_v vs 3) 2) (w_fi ws (n_v vs 3) 5 + 0).toNat + 0) ≤ 0 := f3
  obtain ⟨f4, hf⟩ := fc_un (show (20 : Nat) < 100 from by decide) hf
  have f4 : 1 * w_fi ws (n_v vs 3) 170 + ((-1) * v_iv (n_v vs 2) + ((-36) * v_iv (n_v vs 5) + 0)) ≤ 0 := f4
  obtain ⟨f5, hf⟩ := fc_un (show (24 : Nat) < 100 from by decide) hf
  have f5 : n_v vs 0 = n_v vs 3 := f5
  have q3 : n_v vs 3 = n_v vs 0 := f5.symm
  rw [q3] at f2
  rw [q3] at f3
  rw [q3] at f4
  have cr_0_2 : ta (w_ar ws (n_v vs 0) 2) = some 152 := tv_rg (th_fd hD hth r0 (g := GG_150) rfl (k := 2) (t := (2, 0, 0, [152])) rfl rfl)
  have kz_0_170 : 0 ≤ w_fi ws (n_v vs 0) 170 ∧ w_fi ws (n_v vs 0) 170 ≤ 100000000 := tv_rng (th_fd hD hth r0 (g := GG_150) rfl (k := 170) (t := (0, 0, 100000000, [])) rfl rfl)
  have nf0 : fc_1 (20, [3, 2, 8, 4], [30, -902, 1, 1, 170, -1, 0, 0, -1766, 0, 0, 1766, 0, 0]) ws (vs) := by
    refine ⟨fun n hn => ?_, ?_⟩
    · have hn : n ∈ [3, 2, 8, 4] := hn
      rw [hl]
      simp only [List.mem_cons, List.not_mem_nil, or_false] at hn
      show n < 9; omega
    · show 1 * w_fi ws (n_v vs 3) 170 + ((-1) * v_iv (n_v vs 2) + ((-1766) * v_iv (n_v vs 8) + (1766 * v_iv (n_v vs 4) + 0))) ≤ (-902)
      rw [q3]
      omega
  refine ⟨(fun _ h => (by cases h)), [], trivial, ?_, (fun _ h => (by cases h))⟩
  rw [List.append_nil]
  exact List.forall_mem_cons.mpr ⟨⟨show (20 : Nat) < 100 from by decide, nf0⟩, (fun _ h => (by cases h))⟩
def o_Mo_writeGroup_at_l5_2 : or_T := (26, 9, [(0, (2, 0, 0, [150])), (2, (0, 0, 99995604, [])), (3, (2, 0, 0, [150])), (5, (0, 0, 23, [])), (6, (0, 1, 24, []))], [(7, [5, 6], [2]), (20, [6, 3], [30, 0, 1, 0, 0, -1, 3, 2005000]), (20, [6, 3], [30, 0, -1, 0, 0, 1, 3, 2005000]), (20, [3, 2, 5], [30, 0, 1, 1, 170, -1, 0, 0, -36, 0, 0]), (24, [0, 3], [])], [], [(0, 0, 99999995, [])], [(20, [3, 9], [30, 0, 1, 1, 170, -1, 0, 0]), (23, [9, 2, 5], [0, 1, -1, -36])], [], [(5, 6, -4294967296, -1)])
theorem oo_Mo_writeGroup_at_l5_2 {kA : Nat → ClassId} : or_ok kA GG o_Mo_writeGroup_at_l5_2 := by
  intro A ta ws vs hD hth hl hk hds hf
  have hl : vs.length = 9 := hl
  have hk : ∀ q ∈ ([(0, (2, 0, 0, [150])), (2, (0, 0, 99995604, [])), (3, (2, 0, 0, [150])), (5, (0, 0, 23, [])), (6, (0, 1, 24, []))] : List (Nat × tv_T)), tv_ok ta q.2 (n_v vs q.1) := hk
  obtain ⟨t0, hk⟩ := List.forall_mem_cons.mp hk
  have t0 : tv_ok ta (2, 0, 0, [150]) (n_v vs 0) := t0
  have r0 : ta (v_ad (n_v vs 0)) = some 150 := tv_rg t0
  obtain ⟨t2, hk⟩ := List.forall_mem_cons.mp hk
  have t2 : tv_ok ta (0, 0, 99995604, []) (n_v vs 2) := t2
  have k2 : 0 ≤ v_iv (n_v vs 2) ∧ v_iv (n_v vs 2) ≤ 99995604 := tv_rng t2
  obtain ⟨t3, hk⟩ := List.forall_mem_cons.mp hk
  have t3 : tv_ok ta (2, 0, 0, [150]) (n_v vs 3) := t3
  have r3 : ta (v_ad (n_v vs 3)) = some 150 := tv_rg t3
  obtain ⟨t5, hk⟩ := List.forall_mem_cons.mp hk
  have t5 : tv_ok ta (0, 0, 23, []) (n_v vs 5) := t5
  have k5 : 0 ≤ v_iv (n_v vs 5) ∧ v_iv (n_v vs 5) ≤ 23 := tv_rng t5
  obtain ⟨t6, hk⟩ := List.forall_mem_cons.mp hk
  have t6 : tv_ok ta (0, 1, 24, []) (n_v vs 6) := t6
  have k6 : 1 ≤ v_iv (n_v vs 6) ∧ v_iv (n_v vs 6) ≤ 24 := tv_rng t6
  have hds : ∀ q ∈ ([(5, 6, -4294967296, -1)] : List of_T), n_iv vs q.2.1 + q.2.2.1 ≤ n_iv vs q.1 ∧ n_iv vs q.1 ≤ n_iv vs q.2.1 + q.2.2.2 := hds
  obtain ⟨d0, hds⟩ := List.forall_mem_cons.mp hds
  have d0 : v_iv (n_v vs 6) + (-4294967296) ≤ v_iv (n_v vs 5) ∧ v_iv (n_v vs 5) ≤ v_iv (n_v vs 6) + (-1) := d0
  have hf : fc_ok [(7, [5, 6], [2]), (20, [6, 3], [30, 0, 1, 0, 0, -1, 3, 2005000]), (20, [6, 3], [30, 0, -1, 0, 0, 1, 3, 2005000]), (20, [3, 2, 5], [30, 0, 1, 1, 170, -1, 0, 0, -36, 0, 0]), (24, [0, 3], [])] ta ws vs := hf
  obtain ⟨f0, hf⟩ := fc_un (show (7 : Nat) < 100 from by decide) hf
  have f0 : v_iv (n_v vs 5) < v_iv (n_v vs 6) := f0
  obtain ⟨f1, hf⟩ := fc_un (show (20 : Nat) < 100 from by decide) hf
  have f1 : 1 * v_iv (n_v vs 6) + ((-1) * w_el ws (w_ar ws (n_v vs 3) 2) (w_fi ws (n_v vs 3) 5 + 0).toNat + 0) ≤ 0 := f1
  obtain ⟨f2, hf⟩ := fc_un (show (20 : Nat) < 100 from by decide) hf
  have f2 : (-1) * v_iv (n_v vs 6) + (1 * w_el ws (w_ar ws (n_v vs 3) 2) (w_fi ws (n_v vs 3) 5 + 0).toNat + 0) ≤ 0 := f2
  obtain ⟨f3, hf⟩ := fc_un (show (20 : Nat) < 100 from by decide) hf
  have f3 : 1 * w_fi ws (n_v vs 3) 170 + ((-1) * v_iv (n_v vs 2) + ((-36) * v_iv (n_v vs 5) + 0)) ≤ 0 := f3
  obtain ⟨f4, hf⟩ := fc_un (show (24 : Nat) < 100 from by decide) hf
  have f4 : n_v vs 0 = n_v vs 3 := f4
  have q3 : n_v vs 3 = n_v vs 0 := f4.symm
  rw [q3] at f1
  rw [q3] at f2
  rw [q3] at f3
  have cr_0_2 : ta (w_ar ws (n_v vs 0) 2) = some 152 := tv_rg (th_fd hD hth r0 (g := GG_150) rfl (k := 2) (t := (2, 0, 0, [152])) rfl rfl)
  have kz_0_170 : 0 ≤ w_fi ws (n_v vs 0) 170 ∧ w_fi ws (n_v vs 0) 170 ≤ 100000000 := tv_rng (th_fd hD hth r0 (g := GG_150) rfl (k := 170) (t := (0, 0, 100000000, [])) rfl rfl)
  have kv0 : 0 ≤ w_fi ws (n_v vs 0) 170 ∧ w_fi ws (n_v vs 0) 170 ≤ 100000000 := tv_rng (th_fd hD hth r0 (g := GG_150) rfl (k := 170) (t := (0, 0, 100000000, [])) rfl rfl)
  obtain ⟨x, ex, hx⟩ := iv_ex (ta := ta) (lo := 0) (hi := 99999995) (z := w_fi ws (n_v vs 0) 170) (by omega) (by omega) (by omega) (by omega)
  have ex2 : v_iv (Value.int x) = w_fi ws (n_v vs 0) 170 := ex
  have ex3 : 0 ≤ v_iv (Value.int x) ∧ v_iv (Value.int x) ≤ 99999995 := tv_rng hx
  have e_2 : n_v (vs ++ [Value.int x]) 2 = n_v vs 2 := n_v_old (by rw [hl]; decide)
  have e_3 : n_v (vs ++ [Value.int x]) 3 = n_v vs 3 := n_v_old (by rw [hl]; decide)
  have e_5 : n_v (vs ++ [Value.int x]) 5 = n_v vs 5 := n_v_old (by rw [hl]; decide)
  have e_9 : n_v (vs ++ [Value.int x]) 9 = Value.int x := n_v_new hl
  have nf0 : fc_1 (20, [3, 9], [30, 0, 1, 1, 170, -1, 0, 0]) ws (vs ++ [Value.int x]) := by
    refine ⟨fun n hn => ?_, ?_⟩
    · have hn : n ∈ [3, 9] := hn
      rw [List.length_append, hl]
      simp only [List.mem_cons, List.not_mem_nil, or_false] at hn
      show n < 9 + 1; omega
    · show 1 * w_fi ws (n_v (vs ++ [Value.int x]) 3) 170 + ((-1) * v_iv (n_v (vs ++ [Value.int x]) 9) + 0) ≤ 0
      rw [e_3]
      rw [e_9]
      rw [q3]
      omega
  have nf1 : fc_1 (23, [9, 2, 5], [0, 1, -1, -36]) ws (vs ++ [Value.int x]) := by
    refine ⟨fun n hn => ?_, ?_⟩
    · have hn : n ∈ [9, 2, 5] := hn
      rw [List.length_append, hl]
      simp only [List.mem_cons, List.not_mem_nil, or_false] at hn
      show n < 9 + 1; omega
    · show 1 * v_iv (n_v (vs ++ [Value.int x]) 9) + ((-1) * v_iv (n_v (vs ++ [Value.int x]) 2) + ((-36) * v_iv (n_v (vs ++ [Value.int x]) 5) + 0)) ≤ 0
      rw [e_2]
      rw [e_5]
      rw [e_9]
      omega
  exact ⟨(fun _ h => (by cases h)), [Value.int x], ag_one hx, List.forall_mem_cons.mpr ⟨⟨show (20 : Nat) < 100 from by decide, nf0⟩, List.forall_mem_cons.mpr ⟨⟨show (23 : Nat) < 100 from by decide, nf1⟩, (fun _ h => (by cases h))⟩⟩, (fun _ h => (by cases h))⟩
def o_Mo_writeGroup_at_l5_3 : or_T := (31, 10, [(0, (2, 0, 0, [150])), (2, (0, 0, 99995604, [])), (3, (2, 0, 0, [150])), (5, (0, 0, 23, [])), (6, (0, 1, 24, [])), (9, (0, 0, 99999995, []))], [(23, [9, 2, 5], [0, 1, -1, -36]), (20, [6, 3], [30, 0, 1, 0, 0, -1, 3, 2005000]), (20, [6, 3], [30, 0, -1, 0, 0, 1, 3, 2005000]), (24, [0, 3], []), (20, [3, 9], [30, 5, 1, 1, 170, -1, 0, 0]), (102, [9], [237142198758023568227473377297792835283496928595231875152809132048206089502588928, 13170]), (23, [9, 2, 5], [0, 1, -1, -36]), (7, [5, 6], [2])], [], [(0, 0, 99999992, [])], [(20, [3, 10], [30, 0, 1, 1, 170, -1, 0, 0]), (23, [10, 2, 5], [5, 1, -1, -36])], [], [(5, 6, -4294967296, -1)])
theorem oo_Mo_writeGroup_at_l5_3 {kA : Nat → ClassId} : or_ok kA GG o_Mo_writeGroup_at_l5_3 := by
  intro A ta ws vs hD hth hl hk hds hf
  have hl : vs.length = 10 := hl
  have hk : ∀ q ∈ ([(0, (2, 0, 0, [150])), (2, (0, 0, 99995604, [])), (3, (2, 0, 0, [150])), (5, (0, 0, 23, [])), (6, (0, 1, 24, [])), (9, (0, 0, 99999995, []))] : List (Nat × tv_T)), tv_ok ta q.2 (n_v vs q.1) := hk
  obtain ⟨t0, hk⟩ := List.forall_mem_cons.mp hk
  have t0 : tv_ok ta (2, 0, 0, [150]) (n_v vs 0) := t0
  have r0 : ta (v_ad (n_v vs 0)) = some 150 := tv_rg t0
  obtain ⟨t2, hk⟩ := List.forall_mem_cons.mp hk
  have t2 : tv_ok ta (0, 0, 99995604, []) (n_v vs 2) := t2
  have k2 : 0 ≤ v_iv (n_v vs 2) ∧ v_iv (n_v vs 2) ≤ 99995604 := tv_rng t2
  obtain ⟨t3, hk⟩ := List.forall_mem_cons.mp hk
  have t3 : tv_ok ta (2, 0, 0, [150]) (n_v vs 3) := t3
  have r3 : ta (v_ad (n_v vs 3)) = some 150 := tv_rg t3
  obtain ⟨t5, hk⟩ := List.forall_mem_cons.mp hk
  have t5 : tv_ok ta (0, 0, 23, []) (n_v vs 5) := t5
  have k5 : 0 ≤ v_iv (n_v vs 5) ∧ v_iv (n_v vs 5) ≤ 23 := tv_rng t5
  obtain ⟨t6, hk⟩ := List.forall_mem_cons.mp hk
  have t6 : tv_ok ta (0, 1, 24, []) (n_v vs 6) := t6
  have k6 : 1 ≤ v_iv (n_v vs 6) ∧ v_iv (n_v vs 6) ≤ 24 := tv_rng t6
  obtain ⟨t9, hk⟩ := List.forall_mem_cons.mp hk
  have t9 : tv_ok ta (0, 0, 99999995, []) (n_v vs 9) := t9
  have k9 : 0 ≤ v_iv (n_v vs 9) ∧ v_iv (n_v vs 9) ≤ 99999995 := tv_rng t9
  have hds : ∀ q ∈ ([(5, 6, -4294967296, -1)] : List of_T), n_iv vs q.2.1 + q.2.2.1 ≤ n_iv vs q.1 ∧ n_iv vs q.1 ≤ n_iv vs q.2.1 + q.2.2.2 := hds
  obtain ⟨d0, hds⟩ := List.forall_mem_cons.mp hds
  have d0 : v_iv (n_v vs 6) + (-4294967296) ≤ v_iv (n_v vs 5) ∧ v_iv (n_v vs 5) ≤ v_iv (n_v vs 6) + (-1) := d0
  have hf : fc_ok [(23, [9, 2, 5], [0, 1, -1, -36]), (20, [6, 3], [30, 0, 1, 0, 0, -1, 3, 2005000]), (20, [6, 3], [30, 0, -1, 0, 0, 1, 3, 2005000]), (24, [0, 3], []), (20, [3, 9], [30, 5, 1, 1, 170, -1, 0, 0]), (102, [9], [237142198758023568227473377297792835283496928595231875152809132048206089502588928, 13170]), (23, [9, 2, 5], [0, 1, -1, -36]), (7, [5, 6], [2])] ta ws vs := hf
  obtain ⟨f0, hf⟩ := fc_un (show (23 : Nat) < 100 from by decide) hf
  have f0 : 1 * v_iv (n_v vs 9) + ((-1) * v_iv (n_v vs 2) + ((-36) * v_iv (n_v vs 5) + 0)) ≤ 0 := f0
  obtain ⟨f1, hf⟩ := fc_un (show (20 : Nat) < 100 from by decide) hf
  have f1 : 1 * v_iv (n_v vs 6) + ((-1) * w_el ws (w_ar ws (n_v vs 3) 2) (w_fi ws (n_v vs 3) 5 + 0).toNat + 0) ≤ 0 := f1
  obtain ⟨f2, hf⟩ := fc_un (show (20 : Nat) < 100 from by decide) hf
  have f2 : (-1) * v_iv (n_v vs 6) + (1 * w_el ws (w_ar ws (n_v vs 3) 2) (w_fi ws (n_v vs 3) 5 + 0).toNat + 0) ≤ 0 := f2
  obtain ⟨f3, hf⟩ := fc_un (show (24 : Nat) < 100 from by decide) hf
  have f3 : n_v vs 0 = n_v vs 3 := f3
  obtain ⟨f4, hf⟩ := fc_un (show (20 : Nat) < 100 from by decide) hf
  have f4 : 1 * w_fi ws (n_v vs 3) 170 + ((-1) * v_iv (n_v vs 9) + 0) ≤ 5 := f4
  obtain ⟨ta1, w1, le1, ⟨_, s1⟩, hf⟩ := fc_us (show ¬ (102 : Nat) < 100 from by decide) hf
  obtain ⟨f6, hf⟩ := fc_un (show (23 : Nat) < 100 from by decide) hf
  have f6 : 1 * v_iv (n_v vs 9) + ((-1) * v_iv (n_v vs 2) + ((-36) * v_iv (n_v vs 5) + 0)) ≤ 0 := f6
  obtain ⟨f7, hf⟩ := fc_un (show (7 : Nat) < 100 from by decide) hf
  have f7 : v_iv (n_v vs 5) < v_iv (n_v vs 6) := f7
  have q3 : n_v vs 3 = n_v vs 0 := f3.symm
  rw [q3] at f1
  rw [q3] at f2
  rw [q3] at f4
  have cr_0_2 : ta (w_ar ws (n_v vs 0) 2) = some 152 := tv_rg (th_fd hD hth r0 (g := GG_150) rfl (k := 2) (t := (2, 0, 0, [152])) rfl rfl)
  have kz_0_170 : 0 ≤ w_fi ws (n_v vs 0) 170 ∧ w_fi ws (n_v vs 0) 170 ≤ 100000000 := tv_rng (th_fd hD hth r0 (g := GG_150) rfl (k := 170) (t := (0, 0, 100000000, [])) rfl rfl)
  have kv0 : 0 ≤ w_fi ws (n_v vs 0) 170 ∧ w_fi ws (n_v vs 0) 170 ≤ 100000000 := tv_rng (th_fd hD hth r0 (g := GG_150) rfl (k := 170) (t := (0, 0, 100000000, [])) rfl rfl)
  obtain ⟨x, ex, hx⟩ := iv_ex (ta := ta) (lo := 0) (hi := 99999992) (z := w_fi ws (n_v vs 0) 170) (by omega) (by omega) (by omega) (by omega)
  have ex2 : v_iv (Value.int x) = w_fi ws (n_v vs 0) 170 := ex
  have ex3 : 0 ≤ v_iv (Value.int x) ∧ v_iv (Value.int x) ≤ 99999992 := tv_rng hx
  have e_2 : n_v (vs ++ [Value.int x]) 2 = n_v vs 2 := n_v_old (by rw [hl]; decide)
  have e_3 : n_v (vs ++ [Value.int x]) 3 = n_v vs 3 := n_v_old (by rw [hl]; decide)
  have e_5 : n_v (vs ++ [Value.int x]) 5 = n_v vs 5 := n_v_old (by rw [hl]; decide)
  have e_10 : n_v (vs ++ [Value.int x]) 10 = Value.int x := n_v_new hl
  have nf0 : fc_1 (20, [3, 10], [30, 0, 1, 1, 170, -1, 0, 0]) ws (vs ++ [Value.int x]) := by
    refine ⟨fun n hn => ?_, ?_⟩
    · have hn : n ∈ [3, 10] := hn
      rw [List.length_append, hl]
      simp only [List.mem_cons, List.not_mem_nil, or_false] at hn
      show n < 10 + 1; omega
    · show 1 * w_fi ws (n_v (vs ++ [Value.int x]) 3) 170 + ((-1) * v_iv (n_v (vs ++ [Value.int x]) 10) + 0) ≤ 0
      rw [e_3]
      rw [e_10]
      rw [q3]
      omega
  have nf1 : fc_1 (23, [10, 2, 5], [5, 1, -1, -36]) ws (vs ++ [Value.int x]) := by
    refine ⟨fun n hn => ?_, ?_⟩
    · have hn : n ∈ [10, 2, 5] := hn
      rw [List.length_append, hl]
      simp only [List.mem_cons, List.not_mem_nil, or_false] at hn
      show n < 10 + 1; omega
    · show 1 * v_iv (n_v (vs ++ [Value.int x]) 10) + ((-1) * v_iv (n_v (vs ++ [Value.int x]) 2) + ((-36) * v_iv (n_v (vs ++ [Value.int x]) 5) + 0)) ≤ 5
      rw [e_2]
      rw [e_5]
      rw [e_10]
      omega
  exact ⟨(fun _ h => (by cases h)), [Value.int x], ag_one hx, List.forall_mem_cons.mpr ⟨⟨show (20 : Nat) < 100 from by decide, nf0⟩, List.forall_mem_cons.mpr ⟨⟨show (23 : Nat) < 100 from by decide, nf1⟩, (fun _ h => (by cases h))⟩⟩, (fun _ h => (by cases h))⟩
def o_Mo_writeGroup_at_l5_4 : or_T := (70, 14, [(0, (2, 0, 0, [150])), (2, (0, 0, 99995604, [])), (3, (2, 0, 0, [150])), (5, (0, 0, 23, [])), (6, (0, 1, 24, [])), (9, (0, 0, 99999995, [])), (10, (0, 0, 99999992, []))], [(23, [10, 2, 5], [5, 1, -1, -36]), (23, [9, 2, 5], [0, 1, -1, -36]), (20, [6, 3], [30, 0, 1, 0, 0, -1, 3, 2005000]), (20, [6, 3], [30, 0, -1, 0, 0, 1, 3, 2005000]), (24, [0, 3], []), (20, [3, 10], [30, 8, 1, 1, 170, -1, 0, 0]), (102, [10], [237142198758023568227473377297792835283496928595231875152809132048206089502588928, 13170]), (23, [10, 2, 5], [5, 1, -1, -36]), (23, [9, 2, 5], [0, 1, -1, -36]), (102, [9], [237142198758023568227473377297792835283496928595231875152809132048206089502588928, 13170]), (23, [9, 2, 5], [0, 1, -1, -36]), (7, [5, 6], [2])], [], [(0, 0, 99999998, [])], [(20, [3, 14], [30, 0, 1, 1, 170, -1, 0, 0]), (23, [14, 2, 5], [34, 1, -1, -36])], [], [(5, 6, -4294967296, -1)])
theorem oo_Mo_writeGroup_at_l5_4 {kA : Nat → ClassId} : or_ok kA GG o_Mo_writeGroup_at_l5_4 := by
  intro A ta ws vs hD hth hl hk hds hf
  have hl : vs.length = 14 := hl
  have hk : ∀ q ∈ ([(0, (2, 0, 0, [150])), (2, (0, 0, 99995604, [])), (3, (2, 0, 0, [150])), (5, (0, 0, 23, [])), (6, (0, 1, 24, [])), (9, (0, 0, 99999995, [])), (10, (0, 0, 99999992, []))] : List (Nat × tv_T)), tv_ok ta q.2 (n_v vs q.1) := hk
  obtain ⟨t0, hk⟩ := List.forall_mem_cons.mp hk
  have t0 : tv_ok ta (2, 0, 0, [150]) (n_v vs 0) := t0
  have r0 : ta (v_ad (n_v vs 0)) = some 150 := tv_rg t0
  obtain ⟨t2, hk⟩ := List.forall_mem_cons.mp hk
  have t2 : tv_ok ta (0, 0, 99995604, []) (n_v vs 2) := t2
  have k2 : 0 ≤ v_iv (n_v vs 2) ∧ v_iv (n_v vs 2) ≤ 99995604 := tv_rng t2
  obtain ⟨t3, hk⟩ := List.forall_mem_cons.mp hk
  have t3 : tv_ok ta (2, 0, 0, [150]) (n_v vs 3) := t3
  have r3 : ta (v_ad (n_v vs 3)) = some 150 := tv_rg t3
  obtain ⟨t5, hk⟩ := List.forall_mem_cons.mp hk
  have t5 : tv_ok ta (0, 0, 23, []) (n_v vs 5) := t5
  have k5 : 0 ≤ v_iv (n_v vs 5) ∧ v_iv (n_v vs 5) ≤ 23 := tv_rng t5
  obtain ⟨t6, hk⟩ := List.forall_mem_cons.mp hk
  have t6 : tv_ok ta (0, 1, 24, []) (n_v vs 6) := t6
  have k6 : 1 ≤ v_iv (n_v vs 6) ∧ v_iv (n_v vs 6) ≤ 24 := tv_rng t6
  obtain ⟨t9, hk⟩ := List.forall_mem_cons.mp hk
  have t9 : tv_ok ta (0, 0, 99999995, []) (n_v vs 9) := t9
  have k9 : 0 ≤ v_iv (n_v vs 9) ∧ v_iv (n_v vs 9) ≤ 99999995 := tv_rng t9
  obtain ⟨t10, hk⟩ := List.forall_mem_cons.mp hk
  have t10 : tv_ok ta (0, 0, 99999992, []) (n_v vs 10) := t10
  have k10 : 0 ≤ v_iv (n_v vs 10) ∧ v_iv (n_v vs 10) ≤ 99999992 := tv_rng t10
  have hds : ∀ q ∈ ([(5, 6, -4294967296, -1)] : List of_T), n_iv vs q.2.1 + q.2.2.1 ≤ n_iv vs q.1 ∧ n_iv vs q.1 ≤ n_iv vs q.2.1 + q.2.2.2 := hds
  obtain ⟨d0, hds⟩ := List.forall_mem_cons.mp hds
  have d0 : v_iv (n_v vs 6) + (-4294967296) ≤ v_iv (n_v vs 5) ∧ v_iv (n_v vs 5) ≤ v_iv (n_v vs 6) + (-1) := d0
  have hf : fc_ok [(23, [10, 2, 5], [5, 1, -1, -36]), (23, [9, 2, 5], [0, 1, -1, -36]), (20, [6, 3], [30, 0, 1, 0, 0, -1, 3, 2005000]), (20, [6, 3], [30, 0, -1, 0, 0, 1, 3, 2005000]), (24, [0, 3], []), (20, [3, 10], [30, 8, 1, 1, 170, -1, 0, 0]), (102, [10], [237142198758023568227473377297792835283496928595231875152809132048206089502588928, 13170]), (23, [10, 2, 5], [5, 1, -1, -36]), (23, [9, 2, 5], [0, 1, -1, -36]), (102, [9], [237142198758023568227473377297792835283496928595231875152809132048206089502588928, 13170]), (23, [9, 2, 5], [0, 1, -1, -36]), (7, [5, 6], [2])] ta ws vs := hf
  obtain ⟨f0, hf⟩ := fc_un (show (23 : Nat) < 100 from by decide) hf
  have f0 : 1 * v_iv (n_v vs 10) + ((-1) * v_iv (n_v vs 2) + ((-36) * v_iv (n_v vs 5) + 0)) ≤ 5 := f0
  obtain ⟨f1, hf⟩ := fc_un (show (23 : Nat) < 100 from by decide) hf
  have f1 : 1 * v_iv (n_v vs 9) + ((-1) * v_iv (n_v vs 2) + ((-36) * v_iv (n_v vs 5) + 0)) ≤ 0 := f1
  obtain ⟨f2, hf⟩ := fc_un (show (20 : Nat) < 100 from by decide) hf
  have f2 : 1 * v_iv (n_v vs 6) + ((-1) * w_el ws (w_ar ws (n_v vs 3) 2) (w_fi ws (n_v vs 3) 5 + 0).toNat + 0) ≤ 0 := f2
  obtain ⟨f3, hf⟩ := fc_un (show (20 : Nat) < 100 from by decide) hf
  have f3 : (-1) * v_iv (n_v vs 6) + (1 * w_el ws (w_ar ws (n_v vs 3) 2) (w_fi ws (n_v vs 3) 5 + 0).toNat + 0) ≤ 0 := f3
  obtain ⟨f4, hf⟩ := fc_un (show (24 : Nat) < 100 from by decide) hf
  have f4 : n_v vs 0 = n_v vs 3 := f4
  obtain ⟨f5, hf⟩ := fc_un (show (20 : Nat) < 100 from by decide) hf
  have f5 : 1 * w_fi ws (n_v vs 3) 170 + ((-1) * v_iv (n_v vs 10) + 0) ≤ 8 := f5
  obtain ⟨ta1, w1, le1, ⟨_, s1⟩, hf⟩ := fc_us (show ¬ (102 : Nat) < 100 from by decide) hf
  obtain ⟨f7, hf⟩ := fc_un (show (23 : Nat) < 100 from by decide) hf
  have f7 : 1 * v_iv (n_v vs 10) + ((-1) * v_iv (n_v vs 2) + ((-36) * v_iv (n_v vs 5) + 0)) ≤ 5 := f7
  obtain ⟨f8, hf⟩ := fc_un (show (23 : Nat) < 100 from by decide) hf
  have f8 : 1 * v_iv (n_v vs 9) + ((-1) * v_iv (n_v vs 2) + ((-36) * v_iv (n_v vs 5) + 0)) ≤ 0 := f8
  obtain ⟨ta2, w2, le2, ⟨_, s2⟩, hf⟩ := fc_us (show ¬ (102 : Nat) < 100 from by decide) hf
  obtain ⟨f10, hf⟩ := fc_un (show (23 : Nat) < 100 from by decide) hf
  have f10 : 1 * v_iv (n_v vs 9) + ((-1) * v_iv (n_v vs 2) + ((-36) * v_iv (n_v vs 5) + 0)) ≤ 0 := f10
  obtain ⟨f11, hf⟩ := fc_un (show (7 : Nat) < 100 from by decide) hf
  have f11 : v_iv (n_v vs 5) < v_iv (n_v vs 6) := f11
  have q3 : n_v vs 3 = n_v vs 0 := f4.symm
  rw [q3] at f2
  rw [q3] at f3
  rw [q3] at f5
  have cr_0_2 : ta (w_ar ws (n_v vs 0) 2) = some 152 := tv_rg (th_fd hD hth r0 (g := GG_150) rfl (k := 2) (t := (2, 0, 0, [152])) rfl rfl)
  have kz_0_170 : 0 ≤ w_fi ws (n_v vs 0) 170 ∧ w_fi ws (n_v vs 0) 170 ≤ 100000000 := tv_rng (th_fd hD hth r0 (g := GG_150) rfl (k := 170) (t := (0, 0, 100000000, [])) rfl rfl)
  have kv0 : 0 ≤ w_fi ws (n_v vs 0) 170 ∧ w_fi ws (n_v vs 0) 170 ≤ 100000000 := tv_rng (th_fd hD hth r0 (g := GG_150) rfl (k := 170) (t := (0, 0, 100000000, [])) rfl rfl)
  obtain ⟨x, ex, hx⟩ := iv_ex (ta := ta) (lo := 0) (hi := 99999998) (z := w_fi ws (n_v vs 0) 170) (by omega) (by omega) (by omega) (by omega)
  have ex2 : v_iv (Value.int x) = w_fi ws (n_v vs 0) 170 := ex
  have ex3 : 0 ≤ v_iv (Value.int x) ∧ v_iv (Value.int x) ≤ 99999998 := tv_rng hx
  have e_2 : n_v (vs ++ [Value.int x]) 2 = n_v vs 2 := n_v_old (by rw [hl]; decide)
  have e_3 : n_v (vs ++ [Value.int x]) 3 = n_v vs 3 := n_v_old (by rw [hl]; decide)
  have e_5 : n_v (vs ++ [Value.int x]) 5 = n_v vs 5 := n_v_old (by rw [hl]; decide)
  have e_14 : n_v (vs ++ [Value.int x]) 14 = Value.int x := n_v_new hl
  have nf0 : fc_1 (20, [3, 14], [30, 0, 1, 1, 170, -1, 0, 0]) ws (vs ++ [Value.int x]) := by
    refine ⟨fun n hn => ?_, ?_⟩
    · have hn : n ∈ [3, 14] := hn
      rw [List.length_append, hl]
      simp only [List.mem_cons, List.not_mem_nil, or_false] at hn
      show n < 14 + 1; omega
    · show 1 * w_fi ws (n_v (vs ++ [Value.int x]) 3) 170 + ((-1) * v_iv (n_v (vs ++ [Value.int x]) 14) + 0) ≤ 0
      rw [e_3]
      rw [e_14]
      rw [q3]
      omega
  have nf1 : fc_1 (23, [14, 2, 5], [34, 1, -1, -36]) ws (vs ++ [Value.int x]) := by
    refine ⟨fun n hn => ?_, ?_⟩
    · have hn : n ∈ [14, 2, 5] := hn
      rw [List.length_append, hl]
      simp only [List.mem_cons, List.not_mem_nil, or_false] at hn
      show n < 14 + 1; omega
    · show 1 * v_iv (n_v (vs ++ [Value.int x]) 14) + ((-1) * v_iv (n_v (vs ++ [Value.int x]) 2) + ((-36) * v_iv (n_v (vs ++ [Value.int x]) 5) + 0)) ≤ 34
      rw [e_2]
      rw [e_5]
      rw [e_14]
      omega
  exact ⟨(fun _ h => (by cases h)), [Value.int x], ag_one hx, List.forall_mem_cons.mpr ⟨⟨show (20 : Nat) < 100 from by decide, nf0⟩, List.forall_mem_cons.mpr ⟨⟨show (23 : Nat) < 100 from by decide, nf1⟩, (fun _ h => (by cases h))⟩⟩, (fun _ h => (by cases h))⟩
def o_Mo_writeGroup_at_l5_5 : or_T := (2, 16, [(0, (2, 0, 0, [150])), (2, (0, 0, 99995604, [])), (3, (2, 0, 0, [150])), (5, (0, 0, 23, [])), (6, (0, 1, 24, [])), (9, (0, 0, 99999995, [])), (10, (0, 0, 99999992, [])), (14, (0, 0, 99999998, [])), (15, (0, 1, 24, []))], [(6, [15, 5], [1]), (23, [14, 2, 5], [34, 1, -1, -36]), (23, [10, 2, 5], [5, 1, -1, -36]), (23, [9, 2, 5], [0, 1, -1, -36]), (20, [6, 3], [30, 0, 1, 0, 0, -1, 3, 2005000]), (20, [6, 3], [30, 0, -1, 0, 0, 1, 3, 2005000]), (24, [0, 3], []), (20, [3, 14], [30, 2, 1, 1, 170, -1, 0, 0]), (102, [14], [237142198758023568227473377297792835283496928595231875152809132048206089502588928, 13170]), (23, [14, 2, 5], [34, 1, -1, -36]), (23, [10, 2, 5], [5, 1, -1, -36]), (23, [9, 2, 5], [0, 1, -1, -36]), (102, [10], [237142198758023568227473377297792835283496928595231875152809132048206089502588928, 13170]), (23, [10, 2, 5], [5, 1, -1, -36]), (23, [9, 2, 5], [0, 1, -1, -36]), (102, [9], [237142198758023568227473377297792835283496928595231875152809132048206089502588928, 13170]), (23, [9, 2, 5], [0, 1, -1, -36]), (7, [5, 6], [2])], [], [], [(20, [3, 2, 15], [30, 0, 1, 1, 170, -1, 0, 0, -36, 0, 0])], [], [(15, 5, 1, 1), (15, 6, -4294967296, 0), (5, 6, -4294967296, -1)])
theorem oo_Mo_writeGroup_at_l5_5 {kA : Nat → ClassId} : or_ok kA GG o_Mo_writeGroup_at_l5_5 := by
  intro A ta ws vs hD hth hl hk hds hf
  have hl : vs.length = 16 := hl
  have hk : ∀ q ∈ ([(0, (2, 0, 0, [150])), (2, (0, 0, 99995604, [])), (3, (2, 0, 0, [150])), (5, (0, 0, 23, [])), (6, (0, 1, 24, [])), (9, (0, 0, 99999995, [])), (10, (0, 0, 99999992, [])), (14, (0, 0, 99999998, [])), (15, (0, 1, 24, []))] : List (Nat × tv_T)), tv_ok ta q.2 (n_v vs q.1) := hk
  obtain ⟨t0, hk⟩ := List.forall_mem_cons.mp hk
  have t0 : tv_ok ta (2, 0, 0, [150]) (n_v vs 0) := t0
  have r0 : ta (v_ad (n_v vs 0)) = some 150 := tv_rg t0
  obtain ⟨t2, hk⟩ := List.forall_mem_cons.mp hk
  have t2 : tv_ok ta (0, 0, 99995604, []) (n_v vs 2) := t2
  have k2 : 0 ≤ v_iv (n_v vs 2) ∧ v_iv (n_v vs 2) ≤ 99995604 := tv_rng t2
  obtain ⟨t3, hk⟩ := List.forall_mem_cons.mp hk
  have t3 : tv_ok ta (2, 0, 0, [150]) (n_v vs 3) := t3
  have r3 : ta (v_ad (n_v vs 3)) = some 150 := tv_rg t3
  obtain ⟨t5, hk⟩ := List.forall_mem_cons.mp hk
  have t5 : tv_ok ta (0, 0, 23, []) (n_v vs 5) := t5
  have k5 : 0 ≤ v_iv (n_v vs 5) ∧ v_iv (n_v vs 5) ≤ 23 := tv_rng t5
  obtain ⟨t6, hk⟩ := List.forall_mem_cons.mp hk
  have t6 : tv_ok ta (0, 1, 24, []) (n_v vs 6) := t6
  have k6 : 1 ≤ v_iv (n_v vs 6) ∧ v_iv (n_v vs 6) ≤ 24 := tv_rng t6
  obtain ⟨t9, hk⟩ := List.forall_mem_cons.mp hk
  have t9 : tv_ok ta (0, 0, 99999995, []) (n_v vs 9) := t9
  have k9 : 0 ≤ v_iv (n_v vs 9) ∧ v_iv (n_v vs 9) ≤ 99999995 := tv_rng t9
  obtain ⟨t10, hk⟩ := List.forall_mem_cons.mp hk
  have t10 : tv_ok ta (0, 0, 99999992, []) (n_v vs 10) := t10
  have k10 : 0 ≤ v_iv (n_v vs 10) ∧ v_iv (n_v vs 10) ≤ 99999992 := tv_rng t10
  obtain ⟨t14, hk⟩ := List.forall_mem_cons.mp hk
  have t14 : tv_ok ta (0, 0, 99999998, []) (n_v vs 14) := t14
  have k14 : 0 ≤ v_iv (n_v vs 14) ∧ v_iv (n_v vs 14) ≤ 99999998 := tv_rng t14
  obtain ⟨t15, hk⟩ := List.forall_mem_cons.mp hk
  have t15 : tv_ok ta (0, 1, 24, []) (n_v vs 15) := t15
  have k15 : 1 ≤ v_iv (n_v vs 15) ∧ v_iv (n_v vs 15) ≤ 24 := tv_rng t15
  have hds : ∀ q ∈ ([(15, 5, 1, 1), (15, 6, -4294967296, 0), (5, 6, -4294967296, -1)] : List of_T), n_iv vs q.2.1 + q.2.2.1 ≤ n_iv vs q.1 ∧ n_iv vs q.1 ≤ n_iv vs q.2.1 + q.2.2.2 := hds
  obtain ⟨d0, hds⟩ := List.forall_mem_cons.mp hds
  have d0 : v_iv (n_v vs 5) + 1 ≤ v_iv (n_v vs 15) ∧ v_iv (n_v vs 15) ≤ v_iv (n_v vs 5) + 1 := d0
  obtain ⟨d1, hds⟩ := List.forall_mem_cons.mp hds
  have d1 : v_iv (n_v vs 6) + (-4294967296) ≤ v_iv (n_v vs 15) ∧ v_iv (n_v vs 15) ≤ v_iv (n_v vs 6) + 0 := d1
  obtain ⟨d2, hds⟩ := List.forall_mem_cons.mp hds
  have d2 : v_iv (n_v vs 6) + (-4294967296) ≤ v_iv (n_v vs 5) ∧ v_iv (n_v vs 5) ≤ v_iv (n_v vs 6) + (-1) := d2
  have hf : fc_ok [(6, [15, 5], [1]), (23, [14, 2, 5], [34, 1, -1, -36]), (23, [10, 2, 5], [5, 1, -1, -36]), (23, [9, 2, 5], [0, 1, -1, -36]), (20, [6, 3], [30, 0, 1, 0, 0, -1, 3, 2005000]), (20, [6, 3], [30, 0, -1, 0, 0, 1, 3, 2005000]), (24, [0, 3], []), (20, [3, 14], [30, 2, 1, 1, 170, -1, 0, 0]), (102, [14], [237142198758023568227473377297792835283496928595231875152809132048206089502588928, 13170]), (23, [14, 2, 5], [34, 1, -1, -36]), (23, [10, 2, 5], [5, 1, -1, -36]), (23, [9, 2, 5], [0, 1, -1, -36]), (102, [10], [237142198758023568227473377297792835283496928595231875152809132048206089502588928, 13170]), (23, [10, 2, 5], [5, 1, -1, -36]), (23, [9, 2, 5], [0, 1, -1, -36]), (102, [9], [237142198758023568227473377297792835283496928595231875152809132048206089502588928, 13170]), (23, [9, 2, 5], [0, 1, -1, -36]), (7, [5, 6], [2])] ta ws vs := hf
  obtain ⟨f0, hf⟩ := fc_un (show (6 : Nat) < 100 from by decide) hf
  have f0 : v_iv (n_v vs 15) = v_iv (n_v vs 5) + 1 := f0
  obtain ⟨f1, hf⟩ := fc_un (show (23 : Nat) < 100 from by decide) hf
  have f1 : 1 * v_iv (n_v vs 14) + ((-1) * v_iv (n_v vs 2) + ((-36) * v_iv (n_v vs 5) + 0)) ≤ 34 := f1
  obtain ⟨f2, hf⟩ := fc_un (show (23 : Nat) < 100 from by decide) hf
  have f2 : 1 * v_iv (n_v vs 10) + ((-1) * v_iv (n_v vs 2) + ((-36) * v_iv (n_v vs 5) + 0)) ≤ 5 := f2
  obtain ⟨f3, hf⟩ := fc_un (show (23 : Nat) < 100 from by decide) hf
  have f3 : 1 * v_iv (n_v vs 9) + ((-1) * v_iv (n_v vs 2) + ((-36) * v_iv (n_v vs 5) + 0)) ≤ 0 := f3
  obtain ⟨f4, hf⟩ := fc_un (show (20 : Nat) < 100 from by decide) hf
  have f4 : 1 * v_iv (n_v vs 6) + ((-1) * w_el ws (w_ar ws (n_v vs 3) 2) (w_fi ws (n_v vs 3) 5 + 0).toNat + 0) ≤ 0 := f4
  obtain ⟨f5, hf⟩ := fc_un (show (20 : Nat) < 100 from by decide) hf
  have f5 : (-1) * v_iv (n_v vs 6) + (1 * w_el ws (w_ar ws (n_v vs 3) 2) (w_fi ws (n_v vs 3) 5 + 0).toNat + 0) ≤ 0 := f5
  obtain ⟨f6, hf⟩ := fc_un (show (24 : Nat) < 100 from by decide) hf
  have f6 : n_v vs 0 = n_v vs 3 := f6
  obtain ⟨f7, hf⟩ := fc_un (show (20 : Nat) < 100 from by decide) hf
  have f7 : 1 * w_fi ws (n_v vs 3) 170 + ((-1) * v_iv (n_v vs 14) + 0) ≤ 2 := f7
  obtain ⟨ta1, w1, le1, ⟨_, s1⟩, hf⟩ := fc_us (show ¬ (102 : Nat) < 100 from by decide) hf
  obtain ⟨f9, hf⟩ := fc_un (show (23 : Nat) < 100 from by decide) hf
  have f9 : 1 * v_iv (n_v vs 14) + ((-1) * v_iv (n_v vs 2) + ((-36) * v_iv (n_v vs 5) + 0)) ≤ 34 := f9
  obtain ⟨f10, hf⟩ := fc_un (show (23 : Nat) < 100 from by decide) hf
  have f10 : 1 * v_iv (n_v vs 10) + ((-1) * v_iv (n_v vs 2) + ((-36) * v_iv (n_v vs 5) + 0)) ≤ 5 := f10
  obtain ⟨f11, hf⟩ := fc_un (show (23 : Nat) < 100 from by decide) hf
  have f11 : 1 * v_iv (n_v vs 9) + ((-1) * v_iv (n_v vs 2) + ((-36) * v_iv (n_v vs 5) + 0)) ≤ 0 := f11
  obtain ⟨ta2, w2, le2, ⟨_, s2⟩, hf⟩ := fc_us (show ¬ (102 : Nat) < 100 from by decide) hf
  obtain ⟨f13, hf⟩ := fc_un (show (23 : Nat) < 100 from by decide) hf
  have f13 : 1 * v_iv (n_v vs 10) + ((-1) * v_iv (n_v vs 2) + ((-36) * v_iv (n_v vs 5) + 0)) ≤ 5 := f13
  obtain ⟨f14, hf⟩ := fc_un (show (23 : Nat) < 100 from by decide) hf
  have f14 : 1 * v_iv (n_v vs 9) + ((-1) * v_iv (n_v vs 2) + ((-36) * v_iv (n_v vs 5) + 0)) ≤ 0 := f14
  obtain ⟨ta3, w3, le3, ⟨_, s3⟩, hf⟩ := fc_us (show ¬ (102 : Nat) < 100 from by decide) hf
  obtain ⟨f16, hf⟩ := fc_un (show (23 : Nat) < 100 from by decide) hf
  have f16 : 1 * v_iv (n_v vs 9) + ((-1) * v_iv (n_v vs 2) + ((-36) * v_iv (n_v vs 5) + 0)) ≤ 0 := f16
  obtain ⟨f17, hf⟩ := fc_un (show (7 : Nat) < 100 from by decide) hf
  have f17 : v_iv (n_v vs 5) < v_iv (n_v vs 6) := f17
  have q3 : n_v vs 3 = n_v vs 0 := f6.symm
  rw [q3] at f4
  rw [q3] at f5
  rw [q3] at f7
  have cr_0_2 : ta (w_ar ws (n_v vs 0) 2) = some 152 := tv_rg (th_fd hD hth r0 (g := GG_150) rfl (k := 2) (t := (2, 0, 0, [152])) rfl rfl)
  have kz_0_170 : 0 ≤ w_fi ws (n_v vs 0) 170 ∧ w_fi ws (n_v vs 0) 170 ≤ 100000000 := tv_rng (th_fd hD hth r0 (g := GG_150) rfl (k := 170) (t := (0, 0, 100000000, [])) rfl rfl)
  have nf0 : fc_1 (20, [3, 2, 15], [30, 0, 1, 1, 170, -1, 0, 0, -36, 0, 0]) ws (vs) := by
    refine ⟨fun n hn => ?_, ?_⟩
    · have hn : n ∈ [3, 2, 15] := hn
      rw [hl]
      simp only [List.mem_cons, List.not_mem_nil, or_false] at hn
      show n < 16; omega
    · show 1 * w_fi ws (n_v vs 3) 170 + ((-1) * v_iv (n_v vs 2) + ((-36) * v_iv (n_v vs 15) + 0)) ≤ 0
      rw [q3]
      omega
  refine ⟨(fun _ h => (by cases h)), [], trivial, ?_, (fun _ h => (by cases h))⟩
  rw [List.append_nil]
  exact List.forall_mem_cons.mpr ⟨⟨show (20 : Nat) < 100 from by decide, nf0⟩, (fun _ h => (by cases h))⟩
def o_Mo_writeGroup_at_l5_6 : or_T := (47, 14, [(0, (2, 0, 0, [150])), (2, (0, 0, 99995604, [])), (3, (2, 0, 0, [150])), (5, (0, 0, 23, [])), (6, (0, 1, 24, [])), (9, (0, 0, 99999995, [])), (10, (0, 0, 99999992, []))], [(23, [10, 2, 5], [5, 1, -1, -36]), (23, [9, 2, 5], [0, 1, -1, -36]), (20, [6, 3], [30, 0, 1, 0, 0, -1, 3, 2005000]), (20, [6, 3], [30, 0, -1, 0, 0, 1, 3, 2005000]), (24, [0, 3], []), (20, [3, 10], [30, 8, 1, 1, 170, -1, 0, 0]), (102, [10], [237142198758023568227473377297792835283496928595231875152809132048206089502588928, 13170]), (23, [10, 2, 5], [5, 1, -1, -36]), (23, [9, 2, 5], [0, 1, -1, -36]), (102, [9], [237142198758023568227473377297792835283496928595231875152809132048206089502588928, 13170]), (23, [9, 2, 5], [0, 1, -1, -36]), (7, [5, 6], [2])], [], [(0, 0, 99999993, [])], [(20, [3, 14], [30, 0, 1, 1, 170, -1, 0, 0]), (23, [14, 2, 5], [13, 1, -1, -36])], [], [(5, 6, -4294967296, -1)])
theorem oo_Mo_writeGroup_at_l5_6 {kA : Nat → ClassId} : or_ok kA GG o_Mo_writeGroup_at_l5_6 := by
  intro A ta ws vs hD hth hl hk hds hf
  have hl : vs.length = 14 := hl
  have hk : ∀ q ∈ ([(0, (2, 0, 0, [150])), (2, (0, 0, 99995604, [])), (3, (2, 0, 0, [150])), (5, (0, 0, 23, [])), (6, (0, 1, 24, [])), (9, (0, 0, 99999995, [])), (10, (0, 0, 99999992, []))] : List (Nat × tv_T)), tv_ok ta q.2 (n_v vs q.1) := hk
  obtain ⟨t0, hk⟩ := List.forall_mem_cons.mp hk
  have t0 : tv_ok ta (2, 0, 0, [150]) (n_v vs 0) := t0
  have r0 : ta (v_ad (n_v vs 0)) = some 150 := tv_rg t0
  obtain ⟨t2, hk⟩ := List.forall_mem_cons.mp hk
  have t2 : tv_ok ta (0, 0, 99995604, []) (n_v vs 2) := t2
  have k2 : 0 ≤ v_iv (n_v vs 2) ∧ v_iv (n_v vs 2) ≤ 99995604 := tv_rng t2
  obtain ⟨t3, hk⟩ := List.forall_mem_cons.mp hk
  have t3 : tv_ok ta (2, 0, 0, [150]) (n_v vs 3) := t3
  have r3 : ta (v_ad (n_v vs 3)) = some 150 := tv_rg t3
  obtain ⟨t5, hk⟩ := List.forall_mem_cons.mp hk
  have t5 : tv_ok ta (0, 0, 23, []) (n_v vs 5) := t5
  have k5 : 0 ≤ v_iv (n_v vs 5) ∧ v_iv (n_v vs 5) ≤ 23 := tv_rng t5
  obtain ⟨t6, hk⟩ := List.forall_mem_cons.mp hk
  have t6 : tv_ok ta (0, 1, 24, []) (n_v vs 6) := t6
  have k6 : 1 ≤ v_iv (n_v vs 6) ∧ v_iv (n_v vs 6) ≤ 24 := tv_rng t6
  obtain ⟨t9, hk⟩ := List.forall_mem_cons.mp hk
  have t9 : tv_ok ta (0, 0, 99999995, []) (n_v vs 9) := t9
  have k9 : 0 ≤ v_iv (n_v vs 9) ∧ v_iv (n_v vs 9) ≤ 99999995 := tv_rng t9
  obtain ⟨t10, hk⟩ := List.forall_mem_cons.mp hk
  have t10 : tv_ok ta (0, 0, 99999992, []) (n_v vs 10) := t10
  have k10 : 0 ≤ v_iv (n_v vs 10) ∧ v_iv (n_v vs 10) ≤ 99999992 := tv_rng t10
  have hds : ∀ q ∈ ([(5, 6, -4294967296, -1)] : List of_T), n_iv vs q.2.1 + q.2.2.1 ≤ n_iv vs q.1 ∧ n_iv vs q.1 ≤ n_iv vs q.2.1 + q.2.2.2 := hds
  obtain ⟨d0, hds⟩ := List.forall_mem_cons.mp hds
  have d0 : v_iv (n_v vs 6) + (-4294967296) ≤ v_iv (n_v vs 5) ∧ v_iv (n_v vs 5) ≤ v_iv (n_v vs 6) + (-1) := d0
  have hf : fc_ok [(23, [10, 2, 5], [5, 1, -1, -36]), (23, [9, 2, 5], [0, 1, -1, -36]), (20, [6, 3], [30, 0, 1, 0, 0, -1, 3, 2005000]), (20, [6, 3], [30, 0, -1, 0, 0, 1, 3, 2005000]), (24, [0, 3], []), (20, [3, 10], [30, 8, 1, 1, 170, -1, 0, 0]), (102, [10], [237142198758023568227473377297792835283496928595231875152809132048206089502588928, 13170]), (23, [10, 2, 5], [5, 1, -1, -36]), (23, [9, 2, 5], [0, 1, -1, -36]), (102, [9], [237142198758023568227473377297792835283496928595231875152809132048206089502588928, 13170]), (23, [9, 2, 5], [0, 1, -1, -36]), (7, [5, 6], [2])] ta ws vs := hf
  obtain ⟨f0, hf⟩ := fc_un (show (23 : Nat) < 100 from by decide) hf
  have f0 : 1 * v_iv (n_v vs 10) + ((-1) * v_iv (n_v vs 2) + ((-36) * v_iv (n_v vs 5) + 0)) ≤ 5 := f0
  obtain ⟨f1, hf⟩ := fc_un (show (23 : Nat) < 100 from by decide) hf
  have f1 : 1 * v_iv (n_v vs 9) + ((-1) * v_iv (n_v vs 2) + ((-36) * v_iv (n_v vs 5) + 0)) ≤ 0 := f1
  obtain ⟨f2, hf⟩ := fc_un (show (20 : Nat) < 100 from by decide) hf
  have f2 : 1 * v_iv (n_v vs 6) + ((-1) * w_el ws (w_ar ws (n_v vs 3) 2) (w_fi ws (n_v vs 3) 5 + 0).toNat + 0) ≤ 0 := f2
  obtain ⟨f3, hf⟩ := fc_un (show (20 : Nat) < 100 from by decide) hf
  have f3 : (-1) * v_iv (n_v vs 6) + (1 * w_el ws (w_ar ws (n_v vs 3) 2) (w_fi ws (n_v vs 3) 5 + 0).toNat + 0) ≤ 0 := f3
  obtain ⟨f4, hf⟩ := fc_un (show (24 : Nat) < 100 from by decide) hf
  have f4 : n_v vs 0 = n_v vs 3 := f4
  obtain ⟨f5, hf⟩ := fc_un (show (20 : Nat) < 100 from by decide) hf
  have f5 : 1 * w_fi ws (n_v vs 3) 170 + ((-1) * v_iv (n_v vs 10) + 0) ≤ 8 := f5
  obtain ⟨ta1, w1, le1, ⟨_, s1⟩, hf⟩ := fc_us (show ¬ (102 : Nat) < 100 from by decide) hf
  obtain ⟨f7, hf⟩ := fc_un (show (23 : Nat) < 100 from by decide) hf
  have f7 : 1 * v_iv (n_v vs 10) + ((-1) * v_iv (n_v vs 2) + ((-36) * v_iv (n_v vs 5) + 0)) ≤ 5 := f7
  obtain ⟨f8, hf⟩ := fc_un (show (23 : Nat) < 100 from by decide) hf
  have f8 : 1 * v_iv (n_v vs 9) + ((-1) * v_iv (n_v vs 2) + ((-36) * v_iv (n_v vs 5) + 0)) ≤ 0 := f8
  obtain ⟨ta2, w2, le2, ⟨_, s2⟩, hf⟩ := fc_us (show ¬ (102 : Nat) < 100 from by decide) hf
  obtain ⟨f10, hf⟩ := fc_un (show (23 : Nat) < 100 from by decide) hf
  have f10 : 1 * v_iv (n_v vs 9) + ((-1) * v_iv (n_v vs 2) + ((-36) * v_iv (n_v vs 5) + 0)) ≤ 0 := f10
  obtain ⟨f11, hf⟩ := fc_un (show (7 : Nat) < 100 from by decide) hf
  have f11 : v_iv (n_v vs 5) < v_iv (n_v vs 6) := f11
  have q3 : n_v vs 3 = n_v vs 0 := f4.symm
  rw [q3] at f2
  rw [q3] at f3
  rw [q3] at f5
  have cr_0_2 : ta (w_ar ws (n_v vs 0) 2) = some 152 := tv_rg (th_fd hD hth r0 (g := GG_150) rfl (k := 2) (t := (2, 0, 0, [152])) rfl rfl)
  have kz_0_170 : 0 ≤ w_fi ws (n_v vs 0) 170 ∧ w_fi ws (n_v vs 0) 170 ≤ 100000000 := tv_rng (th_fd hD hth r0 (g := GG_150) rfl (k := 170) (t := (0, 0, 100000000, [])) rfl rfl)
  have kv0 : 0 ≤ w_fi ws (n_v vs 0) 170 ∧ w_fi ws (n_v vs 0) 170 ≤ 100000000 := tv_rng (th_fd hD hth r0 (g := GG_150) rfl (k := 170) (t := (0, 0, 100000000, [])) rfl rfl)
  obtain ⟨x, ex, hx⟩ := iv_ex (ta := ta) (lo := 0) (hi := 99999993) (z := w_fi ws (n_v vs 0) 170) (by omega) (by omega) (by omega) (by omega)
  have ex2 : v_iv (Value.int x) = w_fi ws (n_v vs 0) 170 := ex
  have ex3 : 0 ≤ v_iv (Value.int x) ∧ v_iv (Value.int x) ≤ 99999993 := tv_rng hx
  have e_2 : n_v (vs ++ [Value.int x]) 2 = n_v vs 2 := n_v_old (by rw [hl]; decide)
  have e_3 : n_v (vs ++ [Value.int x]) 3 = n_v vs 3 := n_v_old (by rw [hl]; decide)
  have e_5 : n_v (vs ++ [Value.int x]) 5 = n_v vs 5 := n_v_old (by rw [hl]; decide)
  have e_14 : n_v (vs ++ [Value.int x]) 14 = Value.int x := n_v_new hl
  have nf0 : fc_1 (20, [3, 14], [30, 0, 1, 1, 170, -1, 0, 0]) ws (vs ++ [Value.int x]) := by
    refine ⟨fun n hn => ?_, ?_⟩
    · have hn : n ∈ [3, 14] := hn
      rw [List.length_append, hl]
      simp only [List.mem_cons, List.not_mem_nil, or_false] at hn
      show n < 14 + 1; omega
    · show 1 * w_fi ws (n_v (vs ++ [Value.int x]) 3) 170 + ((-1) * v_iv (n_v (vs ++ [Value.int x]) 14) + 0) ≤ 0
      rw [e_3]
      rw [e_14]
      rw [q3]
      omega
  have nf1 : fc_1 (23, [14, 2, 5], [13, 1, -1, -36]) ws (vs ++ [Value.int x]) := by
    refine ⟨fun n hn => ?_, ?_⟩
    · have hn : n ∈ [14, 2, 5] := hn
      rw [List.length_append, hl]
      simp only [List.mem_cons, List.not_mem_nil, or_false] at hn
      show n < 14 + 1; omega
    · show 1 * v_iv (n_v (vs ++ [Value.int x]) 14) + ((-1) * v_iv (n_v (vs ++ [Value.int x]) 2) + ((-36) * v_iv (n_v (vs ++ [Value.int x]) 5) + 0)) ≤ 13
      rw [e_2]
      rw [e_5]
      rw [e_14]
      omega
  exact ⟨(fun _ h => (by cases h)), [Value.int x], ag_one hx, List.forall_mem_cons.mpr ⟨⟨show (20 : Nat) < 100 from by decide, nf0⟩, List.forall_mem_cons.mpr ⟨⟨show (23 : Nat) < 100 from by decide, nf1⟩, (fun _ h => (by cases h))⟩⟩, (fun _ h => (by cases h))⟩
def o_Mo_writeGroup_at_l5_7 : or_T := (56, 16, [(0, (2, 0, 0, [150])), (2, (0, 0, 99995604, [])), (3, (2, 0, 0, [150])), (5, (0, 0, 23, [])), (6, (0, 1, 24, [])), (9, (0, 0, 99999995, [])), (10, (0, 0, 99999992, [])), (14, (0, 0, 99999993, []))], [(23, [14, 2, 5], [13, 1, -1, -36]), (23, [10, 2, 5], [5, 1, -1, -36]), (23, [9, 2, 5], [0, 1, -1, -36]), (20, [6, 3], [30, 0, 1, 0, 0, -1, 3, 2005000]), (20, [6, 3], [30, 0, -1, 0, 0, 1, 3, 2005000]), (24, [0, 3], []), (20, [3, 14], [30, 7, 1, 1, 170, -1, 0, 0]), (102, [14], [237142198758023568227473377297792835283496928595231875152809132048206089502588928, 13170]), (23, [14, 2, 5], [13, 1, -1, -36]), (23, [10, 2, 5], [5, 1, -1, -36]), (23, [9, 2, 5], [0, 1, -1, -36]), (102, [10], [237142198758023568227473377297792835283496928595231875152809132048206089502588928, 13170]), (23, [10, 2, 5], [5, 1, -1, -36]), (23, [9, 2, 5], [0, 1, -1, -36]), (102, [9], [237142198758023568227473377297792835283496928595231875152809132048206089502588928, 13170]), (23, [9, 2, 5], [0, 1, -1, -36]), (7, [5, 6], [2])], [], [(0, 0, 99999987, [])], [(20, [3, 16], [30, 0, 1, 1, 170, -1, 0, 0]), (23, [16, 2, 5], [20, 1, -1, -36])], [], [(5, 6, -4294967296, -1)])
theorem oo_Mo_writeGroup_at_l5_7 {kA : Nat → ClassId} : or_ok kA GG o_Mo_writeGroup_at_l5_7 := by
  intro A ta ws vs hD hth hl hk hds hf
  have hl : vs.length = 16 := hl
  have hk : ∀ q ∈ ([(0, (2, 0, 0, [150])), (2, (0, 0, 99995604, [])), (3, (2, 0, 0, [150])), (5, (0, 0, 23, [])), (6, (0, 1, 24, [])), (9, (0, 0, 99999995, [])), (10, (0, 0, 99999992, [])), (14, (0, 0, 99999993, []))] : List (Nat × tv_T)), tv_ok ta q.2 (n_v vs q.1) := hk
  obtain ⟨t0, hk⟩ := List.forall_mem_cons.mp hk
  have t0 : tv_ok ta (2, 0, 0, [150]) (n_v vs 0) := t0
  have r0 : ta (v_ad (n_v vs 0)) = some 150 := tv_rg t0
  obtain ⟨t2, hk⟩ := List.forall_mem_cons.mp hk
  have t2 : tv_ok ta (0, 0, 99995604, []) (n_v vs 2) := t2
  have k2 : 0 ≤ v_iv (n_v vs 2) ∧ v_iv (n_v vs 2) ≤ 99995604 := tv_rng t2
  obtain ⟨t3, hk⟩ := List.forall_mem_cons.mp hk
  have t3 : tv_ok ta (2, 0, 0, [150]) (n_v vs 3) := t3
  have r3 : ta (v_ad (n_v vs 3)) = some 150 := tv_rg t3
  obtain ⟨t5, hk⟩ := List.forall_mem_cons.mp hk
  have t5 : tv_ok ta (0, 0, 23, []) (n_v vs 5) := t5
  have k5 : 0 ≤ v_iv (n_v vs 5) ∧ v_iv (n_v vs 5) ≤ 23 := tv_rng t5
  obtain ⟨t6, hk⟩ := List.forall_mem_cons.mp hk
  have t6 : tv_ok ta (0, 1, 24, []) (n_v vs 6) := t6
  have k6 : 1 ≤ v_iv (n_v vs 6) ∧ v_iv (n_v vs 6) ≤ 24 := tv_rng t6
  obtain ⟨t9, hk⟩ := List.forall_mem_cons.mp hk
  have t9 : tv_ok ta (0, 0, 99999995, []) (n_v vs 9) := t9
  have k9 : 0 ≤ v_iv (n_v vs 9) ∧ v_iv (n_v vs 9) ≤ 99999995 := tv_rng t9
  obtain ⟨t10, hk⟩ := List.forall_mem_cons.mp hk
  have t10 : tv_ok ta (0, 0, 99999992, []) (n_v vs 10) := t10
  have k10 : 0 ≤ v_iv (n_v vs 10) ∧ v_iv (n_v vs 10) ≤ 99999992 := tv_rng t10
  obtain ⟨t14, hk⟩ := List.forall_mem_cons.mp hk
  have t14 : tv_ok ta (0, 0, 99999993, []) (n_v vs 14) := t14
  have k14 : 0 ≤ v_iv (n_v vs 14) ∧ v_iv (n_v vs 14) ≤ 99999993 := tv_rng t14
  have hds : ∀ q ∈ ([(5, 6, -4294967296, -1)] : List of_T), n_iv vs q.2.1 + q.2.2.1 ≤ n_iv vs q.1 ∧ n_iv vs q.1 ≤ n_iv vs q.2.1 + q.2.2.2 := hds
  obtain ⟨d0, hds⟩ := List.forall_mem_cons.mp hds
  have d0 : v_iv (n_v vs 6) + (-4294967296) ≤ v_iv (n_v vs 5) ∧ v_iv (n_v vs 5) ≤ v_iv (n_v vs 6) + (-1) := d0
  have hf : fc_ok [(23, [14, 2, 5], [13, 1, -1, -36]), (23, [10, 2, 5], [5, 1, -1, -36]), (23, [9, 2, 5], [0, 1, -1, -36]), (20, [6, 3], [30, 0, 1, 0, 0, -1, 3, 2005000]), (20, [6, 3], [30, 0, -1, 0, 0, 1, 3, 2005000]), (24, [0, 3], []), (20, [3, 14], [30, 7, 1, 1, 170, -1, 0, 0]), (102, [14], [237142198758023568227473377297792835283496928595231875152809132048206089502588928, 13170]), (23, [14, 2, 5], [13, 1, -1, -36]), (23, [10, 2, 5], [5, 1, -1, -36]), (23, [9, 2, 5], [0, 1, -1, -36]), (102, [10], [237142198758023568227473377297792835283496928595231875152809132048206089502588928, 13170]), (23, [10, 2, 5], [5, 1, -1, -36]), (23, [9, 2, 5], [0, 1, -1, -36]), (102, [9], [237142198758023568227473377297792835283496928595231875152809132048206089502588928, 13170]), (23, [9, 2, 5], [0, 1, -1, -36]), (7, [5, 6], [2])] ta ws vs := hf
  obtain ⟨f0, hf⟩ := fc_un (show (23 : Nat) < 100 from by decide) hf
  have f0 : 1 * v_iv (n_v vs 14) + ((-1) * v_iv (n_v vs 2) + ((-36) * v_iv (n_v vs 5) + 0)) ≤ 13 := f0
  obtain ⟨f1, hf⟩ := fc_un (show (23 : Nat) < 100 from by decide) hf
  have f1 : 1 * v_iv (n_v vs 10) + ((-1) * v_iv (n_v vs 2) + ((-36) * v_iv (n_v vs 5) + 0)) ≤ 5 := f1
  obtain ⟨f2, hf⟩ := fc_un (show (23 : Nat) < 100 from by decide) hf
  have f2 : 1 * v_iv (n_v vs 9) + ((-1) * v_iv (n_v vs 2) + ((-36) * v_iv (n_v vs 5) + 0)) ≤ 0 := f2
  obtain ⟨f3, hf⟩ := fc_un (show (20 : Nat) < 100 from by decide) hf
  have f3 : 1 * v_iv (n_v vs 6) + ((-1) * w_el ws (w_ar ws (n_v vs 3) 2) (w_fi ws (n_v vs 3) 5 + 0).toNat + 0) ≤ 0 := f3
  obtain ⟨f4, hf⟩ := fc_un (show (20 : Nat) < 100 from by decide) hf
  have f4 : (-1) * v_iv (n_v vs 6) + (1 * w_el ws (w_ar ws (n_v vs 3) 2) (w_fi ws (n_v vs 3) 5 + 0).toNat + 0) ≤ 0 := f4
  obtain ⟨f5, hf⟩ := fc_un (show (24 : Nat) < 100 from by decide) hf
  have f5 : n_v vs 0 = n_v vs 3 := f5
  obtain ⟨f6, hf⟩ := fc_un (show (20 : Nat) < 100 from by decide) hf
  have f6 : 1 * w_fi ws (n_v vs 3) 170 + ((-1) * v_iv (n_v vs 14) + 0) ≤ 7 := f6
  obtain ⟨ta1, w1, le1, ⟨_, s1⟩, hf⟩ := fc_us (show ¬ (102 : Nat) < 100 from by decide) hf
  obtain ⟨f8, hf⟩ := fc_un (show (23 : Nat) < 100 from by decide) hf
  have f8 : 1 * v_iv (n_v vs 14) + ((-1) * v_iv (n_v vs 2) + ((-36) * v_iv (n_v vs 5) + 0)) ≤ 13 := f8
  obtain ⟨f9, hf⟩ := fc_un (show (23 : Nat) < 100 from by decide) hf
  have f9 : 1 * v_iv (n_v vs 10) + ((-1) * v_iv (n_v vs 2) + ((-36) * v_iv (n_v vs 5) + 0)) ≤ 5 := f9
  obtain ⟨f10, hf⟩ := fc_un (show (23 : Nat) < 100 from by decide) hf
  have f10 : 1 * v_iv (n_v vs 9) + ((-1) * v_iv (n_v vs 2) + ((-36) * v_iv (n_v vs 5) + 0)) ≤ 0 := f10
  obtain ⟨ta2, w2, le2, ⟨_, s2⟩, hf⟩ := fc_us (show ¬ (102 : Nat) < 100 from by decide) hf
  obtain ⟨f12, hf⟩ := fc_un (show (23 : Nat) < 100 from by decide) hf
  have f12 : 1 * v_iv (n_v vs 10) + ((-1) * v_iv (n_v vs 2) + ((-36) * v_iv (n_v vs 5) + 0)) ≤ 5 := f12
  obtain ⟨f13, hf⟩ := fc_un (show (23 : Nat) < 100 from by decide) hf
  have f13 : 1 * v_iv (n_v vs 9) + ((-1) * v_iv (n_v vs 2) + ((-36) * v_iv (n_v vs 5) + 0)) ≤ 0 := f13
  obtain ⟨ta3, w3, le3, ⟨_, s3⟩, hf⟩ := fc_us (show ¬ (102 : Nat) < 100 from by decide) hf
  obtain ⟨f15, hf⟩ := fc_un (show (23 : Nat) < 100 from by decide) hf
  have f15 : 1 * v_iv (n_v vs 9) + ((-1) * v_iv (n_v vs 2) + ((-36) * v_iv (n_v vs 5) + 0)) ≤ 0 := f15
  obtain ⟨f16, hf⟩ := fc_un (show (7 : Nat) < 100 from by decide) hf
  have f16 : v_iv (n_v vs 5) < v_iv (n_v vs 6) := f16
  have q3 : n_v vs 3 = n_v vs 0 := f5.symm
  rw [q3] at f3
  rw [q3] at f4
  rw [q3] at f6
  have cr_0_2 : ta (w_ar ws (n_v vs 0) 2) = some 152 := tv_rg (th_fd hD hth r0 (g := GG_150) rfl (k := 2) (t := (2, 0, 0, [152])) rfl rfl)
  have kz_0_170 : 0 ≤ w_fi ws (n_v vs 0) 170 ∧ w_fi ws (n_v vs 0) 170 ≤ 100000000 := tv_rng (th_fd hD hth r0 (g := GG_150) rfl (k := 170) (t := (0, 0, 100000000, [])) rfl rfl)
  have kv0 : 0 ≤ w_fi ws (n_v vs 0) 170 ∧ w_fi ws (n_v vs 0) 170 ≤ 100000000 := tv_rng (th_fd hD hth r0 (g := GG_150) rfl (k := 170) (t := (0, 0, 100000000, [])) rfl rfl)
  obtain ⟨x, ex, hx⟩ := iv_ex (ta := ta) (lo := 0) (hi := 99999987) (z := w_fi ws (n_v vs 0) 170) (by omega) (by omega) (by omega) (by omega)
  have ex2 : v_iv (Value.int x) = w_fi ws (n_v vs 0) 170 := ex
  have ex3 : 0 ≤ v_iv (Value.int x) ∧ v_iv (Value.int x) ≤ 99999987 := tv_rng hx
  have e_2 : n_v (vs ++ [Value.int x]) 2 = n_v vs 2 := n_v_old (by rw [hl]; decide)
  have e_3 : n_v (vs ++ [Value.int x]) 3 = n_v vs 3 := n_v_old (by rw [hl]; decide)
  have e_5 : n_v (vs ++ [Value.int x]) 5 = n_v vs 5 := n_v_old (by rw [hl]; decide)
  have e_16 : n_v (vs ++ [Value.int x]) 16 = Value.int x := n_v_new hl
  have nf0 : fc_1 (20, [3, 16], [30, 0, 1, 1, 170, -1, 0, 0]) ws (vs ++ [Value.int x]) := by
    refine ⟨fun n hn => ?_, ?_⟩
    · have hn : n ∈ [3, 16] := hn
      rw [List.length_append, hl]
      simp only [List.mem_cons, List.not_mem_nil, or_false] at hn
      show n < 16 + 1; omega
    · show 1 * w_fi ws (n_v (vs ++ [Value.int x]) 3) 170 + ((-1) * v_iv (n_v (vs ++ [Value.int x]) 16) + 0) ≤ 0
      rw [e_3]
      rw [e_16]
      rw [q3]
      omega
  have nf1 : fc_1 (23, [16, 2, 5], [20, 1, -1, -36]) ws (vs ++ [Value.int x]) := by
    refine ⟨fun n hn => ?_, ?_⟩
    · have hn : n ∈ [16, 2, 5] := hn
      rw [List.length_append, hl]
      simp only [List.mem_cons, List.not_mem_nil, or_false] at hn
      show n < 16 + 1; omega
    · show 1 * v_iv (n_v (vs ++ [Value.int x]) 16) + ((-1) * v_iv (n_v (vs ++ [Value.int x]) 2) + ((-36) * v_iv (n_v (vs ++ [Value.int x]) 5) + 0)) ≤ 20
      rw [e_2]
      rw [e_5]
      rw [e_16]
      omega
  exact ⟨(fun _ h => (by cases h)), [Value.int x], ag_one hx, List.forall_mem_cons.mpr ⟨⟨show (20 : Nat) < 100 from by decide, nf0⟩, List.forall_mem_cons.mpr ⟨⟨show (23 : Nat) < 100 from by decide, nf1⟩, (fun _ h => (by cases h))⟩⟩, (fun _ h => (by cases h))⟩
def o_Mo_writeGroup_at_l5_8 : or_T := (63, 18, [(0, (2, 0, 0, [150])), (2, (0, 0, 99995604, [])), (3, (2, 0, 0, [150])), (5, (0, 0, 23, [])), (6, (0, 1, 24, [])), (9, (0, 0, 99999995, [])), (10, (0, 0, 99999992, [])), (14, (0, 0, 99999993, [])), (16, (0, 0, 99999987, []))], [(23, [16, 2, 5], [20, 1, -1, -36]), (23, [14, 2, 5], [13, 1, -1, -36]), (23, [10, 2, 5], [5, 1, -1, -36]), (23, [9, 2, 5], [0, 1, -1, -36]), (20, [6, 3], [30, 0, 1, 0, 0, -1, 3, 2005000]), (20, [6, 3], [30, 0, -1, 0, 0, 1, 3, 2005000]), (24, [0, 3], []), (20, [3, 16], [30, 13, 1, 1, 170, -1, 0, 0]), (102, [16], [237142198758023568227473377297792835283496928595231875152809132048206089502588928, 13170]), (23, [16, 2, 5], [20, 1, -1, -36]), (23, [14, 2, 5], [13, 1, -1, -36]), (23, [10, 2, 5], [5, 1, -1, -36]), (23, [9, 2, 5], [0, 1, -1, -36]), (102, [14], [237142198758023568227473377297792835283496928595231875152809132048206089502588928, 13170]), (23, [14, 2, 5], [13, 1, -1, -36]), (23, [10, 2, 5], [5, 1, -1, -36]), (23, [9, 2, 5], [0, 1, -1, -36]), (102, [10], [237142198758023568227473377297792835283496928595231875152809132048206089502588928, 13170]), (23, [10, 2, 5], [5, 1, -1, -36]), (23, [9, 2, 5], [0, 1, -1, -36]), (102, [9], [237142198758023568227473377297792835283496928595231875152809132048206089502588928, 13170]), (23, [9, 2, 5], [0, 1, -1, -36]), (7, [5, 6], [2])], [], [(0, 0, 99999999, [])], [(20, [3, 18], [30, 0, 1, 1, 170, -1, 0, 0]), (23, [18, 2, 5], [33, 1, -1, -36])], [], [(5, 6, -4294967296, -1)])
theorem oo_Mo_writeGroup_at_l5_8 {kA : Nat → ClassId} : or_ok kA GG o_Mo_writeGroup_at_l5_8 := by
  intro A ta ws vs hD hth hl hk hds hf
  have hl : vs.length = 18 := hl
  have hk : ∀ q ∈ ([(0, (2, 0, 0, [150])), (2, (0, 0, 99995604, [])), (3, (2, 0, 0, [150])), (5, (0, 0, 23, [])), (6, (0, 1, 24, [])), (9, (0, 0, 99999995, [])), (10, (0, 0, 99999992, [])), (14, (0, 0, 99999993, [])), (16, (0, 0, 99999987, []))] : List (Nat × tv_T)), tv_ok ta q.2 (n_v vs q.1) := hk
  obtain ⟨t0, hk⟩ := List.forall_mem_cons.mp hk
  have t0 : tv_ok ta (2, 0, 0, [150]) (n_v vs 0) := t0
  have r0 : ta (v_ad (n_v vs 0)) = some 150 := tv_rg t0
  obtain ⟨t2, hk⟩ := List.forall_mem_cons.mp hk
  have t2 : tv_ok ta (0, 0, 99995604, []) (n_v vs 2) := t2
  have k2 : 0 ≤ v_iv (n_v vs 2) ∧ v_iv (n_v vs 2) ≤ 99995604 := tv_rng t2
  obtain ⟨t3, hk⟩ := List.forall_mem_cons.mp hk
  have t3 : tv_ok ta (2, 0, 0, [150]) (n_v vs 3) := t3
  have r3 : ta (v_ad (n_v vs 3)) = some 150 := tv_rg t3
  obtain ⟨t5, hk⟩ := List.forall_mem_cons.mp hk
  have t5 : tv_ok ta (0, 0, 23, []) (n_v vs 5) := t5
  have k5 : 0 ≤ v_iv (n_v vs 5) ∧ v_iv (n_v vs 5) ≤ 23 := tv_rng t5
  obtain ⟨t6, hk⟩ := List.forall_mem_cons.mp hk
  have t6 : tv_ok ta (0, 1, 24, []) (n_v vs 6) := t6
  have k6 : 1 ≤ v_iv (n_v vs 6) ∧ v_iv (n_v vs 6) ≤ 24 := tv_rng t6
  obtain ⟨t9, hk⟩ := List.forall_mem_cons.mp hk
  have t9 : tv_ok ta (0, 0, 99999995, []) (n_v vs 9) := t9
  have k9 : 0 ≤ v_iv (n_v vs 9) ∧ v_iv (n_v vs 9) ≤ 99999995 := tv_rng t9
  obtain ⟨t10, hk⟩ := List.forall_mem_cons.mp hk
  have t10 : tv_ok ta (0, 0, 99999992, []) (n_v vs 10) := t10
  have k10 : 0 ≤ v_iv (n_v vs 10) ∧ v_iv (n_v vs 10) ≤ 99999992 := tv_rng t10
  obtain ⟨t14, hk⟩ := List.forall_mem_cons.mp hk
  have t14 : tv_ok ta (0, 0, 99999993, []) (n_v vs 14) := t14
  have k14 : 0 ≤ v_iv (n_v vs 14) ∧ v_iv (n_v vs 14) ≤ 99999993 := tv_rng t14
  obtain ⟨t16, hk⟩ := List.forall_mem_cons.mp hk
  have t16 : tv_ok ta (0, 0, 99999987, []) (n_v vs 16) := t16
  have k16 : 0 ≤ v_iv (n_v vs 16) ∧ v_iv (n_v vs 16) ≤ 99999987 := tv_rng t16
  have hds : ∀ q ∈ ([(5, 6, -4294967296, -1)] : List of_T), n_iv vs q.2.1 + q.2.2.1 ≤ n_iv vs q.1 ∧ n_iv vs q.1 ≤ n_iv vs q.2.1 + q.2.2.2 := hds
  obtain ⟨d0, hds⟩ := List.forall_mem_cons.mp hds
  have d0 : v_iv (n_v vs 6) + (-4294967296) ≤ v_iv (n_v vs 5) ∧ v_iv (n_v vs 5) ≤ v_iv (n_v vs 6) + (-1) := d0
  have hf : fc_ok [(23, [16, 2, 5], [20, 1, -1, -36]), (23, [14, 2, 5], [13, 1, -1, -36]), (23, [10, 2, 5], [5, 1, -1, -36]), (23, [9, 2, 5], [0, 1, -1, -36]), (20, [6, 3], [30, 0, 1, 0, 0, -1, 3, 2005000]), (20, [6, 3], [30, 0, -1, 0, 0, 1, 3, 2005000]), (24, [0, 3], []), (20, [3, 16], [30, 13, 1, 1, 170, -1, 0, 0]), (102, [16], [237142198758023568227473377297792835283496928595231875152809132048206089502588928, 13170]), (23, [16, 2, 5], [20, 1, -1, -36]), (23, [14, 2, 5], [13, 1, -1, -36]), (23, [10, 2, 5], [5, 1, -1, -36]), (23, [9, 2, 5], [0, 1, -1, -36]), (102, [14], [237142198758023568227473377297792835283496928595231875152809132048206089502588928, 13170]), (23, [14, 2, 5], [13, 1, -1, -36]), (23, [10, 2, 5], [5, 1, -1, -36]), (23, [9, 2, 5], [0, 1, -1, -36]), (102, [10], [237142198758023568227473377297792835283496928595231875152809132048206089502588928, 13170]), (23, [10, 2, 5], [5, 1, -1, -36]), (23, [9, 2, 5], [0, 1, -1, -36]), (102, [9], [237142198758023568227473377297792835283496928595231875152809132048206089502588928, 13170]), (23, [9, 2, 5], [0, 1, -1, -36]), (7, [5, 6], [2])] ta ws vs := hf
  obtain ⟨f0, hf⟩ := fc_un (show (23 : Nat) < 100 from by decide) hf
  have f0 : 1 * v_iv (n_v vs 16) + ((-1) * v_iv (n_v vs 2) + ((-36) * v_iv (n_v vs 5) + 0)) ≤ 20 := f0
  obtain ⟨f1, hf⟩ := fc_un (show (23 : Nat) < 100 from by decide) hf
  have f1 : 1 * v_iv (n_v vs 14) + ((-1) * v_iv (n_v vs 2) + ((-36) * v_iv (n_v vs 5) + 0)) ≤ 13 := f1
  obtain ⟨f2, hf⟩ := fc_un (show (23 : Nat) < 100 from by decide) hf
  have f2 : 1 * v_iv (n_v vs 10) + ((-1) * v_iv (n_v vs 2) + ((-36) * v_iv (n_v vs 5) + 0)) ≤ 5 := f2
  obtain ⟨f3, hf⟩ := fc_un (show (23 : Nat) < 100 from by decide) hf
  have f3 : 1 * v_iv (n_v vs 9) + ((-1) * v_iv (n_v vs 2) + ((-36) * v_iv (n_v vs 5) + 0)) ≤ 0 := f3
  obtain ⟨f4, hf⟩ := fc_un (show (20 : Nat) < 100 from by decide) hf
  have f4 : 1 * v_iv (n_v vs 6) + ((-1) * w_el ws (w_ar ws (n_v vs 3) 2) (w_fi ws (n_v vs 3) 5 + 0).toNat + 0) ≤ 0 := f4
  obtain ⟨f5, hf⟩ := fc_un (show (20 : Nat) < 100 from by decide) hf
  have f5 : (-1) * v_iv (n_v vs 6) + (1 * w_el ws (w_ar ws (n_v vs 3) 2) (w_fi ws (n_v vs 3) 5 + 0).toNat + 0) ≤ 0 := f5
  obtain ⟨f6, hf⟩ := fc_un (show (24 : Nat) < 100 from by decide) hf
  have f6 : n_v vs 0 = n_v vs 3 := f6
  obtain ⟨f7, hf⟩ := fc_un (show (20 : Nat) < 100 from by decide) hf
  have f7 : 1 * w_fi ws (n_v vs 3) 170 + ((-1) * v_iv (n_v vs 16) + 0) ≤ 13 := f7
  obtain ⟨ta1, w1, le1, ⟨_, s1⟩, hf⟩ := fc_us (show ¬ (102 : Nat) < 100 from by decide) hf
  obtain ⟨f9, hf⟩ := fc_un (show (23 : Nat) < 100 from by decide) hf
  have f9 : 1 * v_iv (n_v vs 16) + ((-1) * v_iv (n_v vs 2) + ((-36) * v_iv (n_v vs 5) + 0)) ≤ 20 := f9
  obtain ⟨f10, hf⟩ := fc_un (show (23 : Nat) < 100 from by decide) hf
  have f10 : 1 * v_iv (n_v vs 14) + ((-1) * v_iv (n_v vs 2) + ((-36) * v_iv (n_v vs 5) + 0)) ≤ 13 := f10
  obtain ⟨f11, hf⟩ := fc_un (show (23 : Nat) < 100 from by decide) hf
  have f11 : 1 * v_iv (n_v vs 10) + ((-1) * v_iv (n_v vs 2) + ((-36) * v_iv (n_v vs 5) + 0)) ≤ 5 := f11
  obtain ⟨f12, hf⟩ := fc_un (show (23 : Nat) < 100 from by decide) hf
  have f12 : 1 * v_iv (n_v vs 9) + ((-1) * v_iv (n_v vs 2) + ((-36) * v_iv (n_v vs 5) + 0)) ≤ 0 := f12
  obtain ⟨ta2, w2, le2, ⟨_, s2⟩, hf⟩ := fc_us (show ¬ (102 : Nat) < 100 from by decide) hf
  obtain ⟨f14, hf⟩ := fc_un (show (23 : Nat) < 100 from by decide) hf
  have f14 : 1 * v_iv (n_v vs 14) + ((-1) * v_iv (n_v vs 2) + ((-36) * v_iv (n_v vs 5) + 0)) ≤ 13 := f14
  obtain ⟨f15, hf⟩ := fc_un (show (23 : Nat) < 100 from by decide) hf
  have f15 : 1 * v_iv (n_v vs 10) + ((-1) * v_iv (n_v vs 2) + ((-36) * v_iv (n_v vs 5) + 0)) ≤ 5 := f15
  obtain ⟨f16, hf⟩ := fc_un (show (23 : Nat) < 100 from by decide) hf
  have f16 : 1 * v_iv (n_v vs 9) + ((-1) * v_iv (n_v vs 2) + ((-36) * v_iv (n_v vs 5) + 0)) ≤ 0 := f16
  obtain ⟨ta3, w3, le3, ⟨_, s3⟩, hf⟩ := fc_us (show ¬ (102 : Nat) < 100 from by decide) hf
  obtain ⟨f18, hf⟩ := fc_un (show (23 : Nat) < 100 from by decide) hf
  have f18 : 1 * v_iv (n_v vs 10) + ((-1) * v_iv (n_v vs 2) + ((-36) * v_iv (n_v vs 5) + 0)) ≤ 5 := f18
  obtain ⟨f19, hf⟩ := fc_un (show (23 : Nat) < 100 from by decide) hf
  have f19 : 1 * v_iv (n_v vs 9) + ((-1) * v_iv (n_v vs 2) + ((-36) * v_iv (n_v vs 5) + 0)) ≤ 0 := f19
  obtain ⟨ta4, w4, le4, ⟨_, s4⟩, hf⟩ := fc_us (show ¬ (102 : Nat) < 100 from by decide) hf
  obtain ⟨f21, hf⟩ := fc_un (show (23 : Nat) < 100 from by decide) hf
  have f21 : 1 * v_iv (n_v vs 9) + ((-1) * v_iv (n_v vs 2) + ((-36) * v_iv (n_v vs 5) + 0)) ≤ 0 := f21
  obtain ⟨f22, hf⟩ := fc_un (show (7 : Nat) < 100 from by decide) hf
  have f22 : v_iv (n_v vs 5) < v_iv (n_v vs 6) := f22
  have q3 : n_v vs 3 = n_v vs 0 := f6.symm
  rw [q3] at f4
  rw [q3] at f5
  rw [q3] at f7
  have cr_0_2 : ta (w_ar ws (n_v vs 0) 2) = some 152 := tv_rg (th_fd hD hth r0 (g := GG_150) rfl (k := 2) (t := (2, 0, 0, [152])) rfl rfl)
  have kz_0_170 : 0 ≤ w_fi ws (n_v vs 0) 170 ∧ w_fi ws (n_v vs 0) 170 ≤ 100000000 := tv_rng (th_fd hD hth r0 (g := GG_150) rfl (k := 170) (t := (0, 0, 100000000, [])) rfl rfl)
  have kv0 : 0 ≤ w_fi ws (n_v vs 0) 170 ∧ w_fi ws (n_v vs 0) 170 ≤ 100000000 := tv_rng (th_fd hD hth r0 (g := GG_150) rfl (k := 170) (t := (0, 0, 100000000, [])) rfl rfl)
  obtain ⟨x, ex, hx⟩ := iv_ex (ta := ta) (lo := 0) (hi := 99999999) (z := w_fi ws (n_v vs 0) 170) (by omega) (by omega) (by omega) (by omega)
  have ex2 : v_iv (Value.int x) = w_fi ws (n_v vs 0) 170 := ex
  have ex3 : 0 ≤ v_iv (Value.int x) ∧ v_iv (Value.int x) ≤ 99999999 := tv_rng hx
  have e_2 : n_v (vs ++ [Value.int x]) 2 = n_v vs 2 := n_v_old (by rw [hl]; decide)
  have e_3 : n_v (vs ++ [Value.int x]) 3 = n_v vs 3 := n_v_old (by rw [hl]; decide)
  have e_5 : n_v (vs ++ [Value.int x]) 5 = n_v vs 5 := n_v_old (by rw [hl]; decide)
  have e_18 : n_v (vs ++ [Value.int x]) 18 = Value.int x := n_v_new hl
  have nf0 : fc_1 (20, [3, 18], [30, 0, 1, 1, 170, -1, 0, 0]) ws (vs ++ [Value.int x]) := by
    refine ⟨fun n hn => ?_, ?_⟩
    · have hn : n ∈ [3, 18] := hn
      rw [List.length_append, hl]
      simp only [List.mem_cons, List.not_mem_nil, or_false] at hn
      show n < 18 + 1; omega
    · show 1 * w_fi ws (n_v (vs ++ [Value.int x]) 3) 170 + ((-1) * v_iv (n_v (vs ++ [Value.int x]) 18) + 0) ≤ 0
      rw [e_3]
      rw [e_18]
      rw [q3]
      omega
  have nf1 : fc_1 (23, [18, 2, 5], [33, 1, -1, -36]) ws (vs ++ [Value.int x]) := by
    refine ⟨fun n hn => ?_, ?_⟩
    · have hn : n ∈ [18, 2, 5] := hn
      rw [List.length_append, hl]
      simp only [List.mem_cons, List.not_mem_nil, or_false] at hn
      show n < 18 + 1; omega
    · show 1 * v_iv (n_v (vs ++ [Value.int x]) 18) + ((-1) * v_iv (n_v (vs ++ [Value.int x]) 2) + ((-36) * v_iv (n_v (vs ++ [Value.int x]) 5) + 0)) ≤ 33
      rw [e_2]
      rw [e_5]
      rw [e_18]
      omega
  exact ⟨(fun _ h => (by cases h)), [Value.int x], ag_one hx, List.forall_mem_cons.mpr ⟨⟨show (20 : Nat) < 100 from by decide, nf0⟩, List.forall_mem_cons.mpr ⟨⟨show (23 : Nat) < 100 from by decide, nf1⟩, (fun _ h => (by cases h))⟩⟩, (fun _ h => (by cases h))⟩
def o_Mo_writeGroup_at_l5_9 : or_T := (70, 20, [(0, (2, 0, 0, [150])), (2, (0, 0, 99995604, [])), (3, (2, 0, 0, [150])), (5, (0, 0, 23, [])), (6, (0, 1, 24, [])), (9, (0, 0, 99999995, [])), (10, (0, 0, 99999992, [])), (14, (0, 0, 99999993, [])), (16, (0, 0, 99999987, [])), (18, (0, 0, 99999999, []))], [(23, [18, 2, 5], [33, 1, -1, -36]), (23, [16, 2, 5], [20, 1, -1, -36]), (23, [14, 2, 5], [13, 1, -1, -36]), (23, [10, 2, 5], [5, 1, -1, -36]), (23, [9, 2, 5], [0, 1, -1, -36]), (20, [6, 3], [30, 0, 1, 0, 0, -1, 3, 2005000]), (20, [6, 3], [30, 0, -1, 0, 0, 1, 3, 2005000]), (24, [0, 3], []), (20, [3, 18], [30, 1, 1, 1, 170, -1, 0, 0]), (102, [18], [237142198758023568227473377297792835283496928595231875152809132048206089502588928, 13170]), (23, [18, 2, 5], [33, 1, -1, -36]), (23, [16, 2, 5], [20, 1, -1, -36]), (23, [14, 2, 5], [13, 1, -1, -36]), (23, [10, 2, 5], [5, 1, -1, -36]), (23, [9, 2, 5], [0, 1, -1, -36]), (102, [16], [237142198758023568227473377297792835283496928595231875152809132048206089502588928, 13170]), (23, [16, 2, 5], [20, 1, -1, -36]), (23, [14, 2, 5], [13, 1, -1, -36]), (23, [10, 2, 5], [5, 1, -1, -36]), (23, [9, 2, 5], [0, 1, -1, -36]), (102, [14], [237142198758023568227473377297792835283496928595231875152809132048206089502588928, 13170]), (23, [14, 2, 5], [13, 1, -1, -36]), (23, [10, 2, 5], [5, 1, -1, -36]), (23, [9, 2, 5], [0, 1, -1, -36]), (102, [10], [237142198758023568227473377297792835283496928595231875152809132048206089502588928, 13170]), (23, [10, 2, 5], [5, 1, -1, -36]), (23, [9, 2, 5], [0, 1, -1, -36]), (102, [9], [237142198758023568227473377297792835283496928595231875152809132048206089502588928, 13170]), (23, [9, 2, 5], [0, 1, -1, -36]), (7, [5, 6], [2])], [], [(0, 0, 99999998, [])], [(20, [3, 20], [30, 0, 1, 1, 170, -1, 0, 0]), (23, [20, 2, 5], [34, 1, -1, -36])], [], [(5, 6, -4294967296, -1)])
theorem oo_Mo_writeGroup_at_l5_9 {kA : Nat → ClassId} : or_ok kA GG o_Mo_writeGroup_at_l5_9 := by
  intro A ta ws vs hD hth hl hk hds hf
  have hl : vs.length = 20 := hl
  have hk : ∀ q ∈ ([(0, (2, 0, 0, [150])), (2, (0, 0, 99995604, [])), (3, (2, 0, 0, [150])), (5, (0, 0, 23, [])), (6, (0, 1, 24, [])), (9, (0, 0, 99999995, [])), (10, (0, 0, 99999992, [])), (14, (0, 0, 99999993, [])), (16, (0, 0, 99999987, [])), (18, (0, 0, 99999999, []))] : List (Nat × tv_T)), tv_ok ta q.2 (n_v vs q.1) := hk
  obtain ⟨t0, hk⟩ := List.forall_mem_cons.mp hk
  have t0 : tv_ok ta (2, 0, 0, [150]) (n_v vs 0) := t0
  have r0 : ta (v_ad (n_v vs 0)) = some 150 := tv_rg t0
  obtain ⟨t2, hk⟩ := List.forall_mem_cons.mp hk
  have t2 : tv_ok ta (0, 0, 99995604, []) (n_v vs 2) := t2
  have k2 : 0 ≤ v_iv (n_v vs 2) ∧ v_iv (n_v vs 2) ≤ 99995604 := tv_rng t2
  obtain ⟨t3, hk⟩ := List.forall_mem_cons.mp hk
  have t3 : tv_ok ta (2, 0, 0, [150]) (n_v vs 3) := t3
  have r3 : ta (v_ad (n_v vs 3)) = some 150 := tv_rg t3
  obtain ⟨t5, hk⟩ := List.forall_mem_cons.mp hk
  have t5 : tv_ok ta (0, 0, 23, []) (n_v vs 5) := t5
  have k5 : 0 ≤ v_iv (n_v vs 5) ∧ v_iv (n_v vs 5) ≤ 23 := tv_rng t5
  obtain ⟨t6, hk⟩ := List.forall_mem_cons.mp hk
  have t6 : tv_ok ta (0, 1, 24, []) (n_v vs 6) := t6
  have k6 : 1 ≤ v_iv (n_v vs 6) ∧ v_iv (n_v vs 6) ≤ 24 := tv_rng t6
  obtain ⟨t9, hk⟩ := List.forall_mem_cons.mp hk
  have t9 : tv_ok ta (0, 0, 99999995, []) (n_v vs 9) := t9
  have k9 : 0 ≤ v_iv (n_v vs 9) ∧ v_iv (n_v vs 9) ≤ 99999995 := tv_rng t9
  obtain ⟨t10, hk⟩ := List.forall_mem_cons.mp hk
  have t10 : tv_ok ta (0, 0, 99999992, []) (n_v vs 10) := t10
  have k10 : 0 ≤ v_iv (n_v vs 10) ∧ v_iv (n_v vs 10) ≤ 99999992 := tv_rng t10
  obtain ⟨t14, hk⟩ := List.forall_mem_cons.mp hk
  have t14 : tv_ok ta (0, 0, 99999993, []) (n_v vs 14) := t14
  have k14 : 0 ≤ v_iv (n_v vs 14) ∧ v_iv (n_v vs 14) ≤ 99999993 := tv_rng t14
  obtain ⟨t16, hk⟩ := List.forall_mem_cons.mp hk
  have t16 : tv_ok ta (0, 0, 99999987, []) (n_v vs 16) := t16
  have k16 : 0 ≤ v_iv (n_v vs 16) ∧ v_iv (n_v vs 16) ≤ 99999987 := tv_rng t16
  obtain ⟨t18, hk⟩ := List.forall_mem_cons.mp hk
  have t18 : tv_ok ta (0, 0, 99999999, []) (n_v vs 18) := t18
  have k18 : 0 ≤ v_iv (n_v vs 18) ∧ v_iv (n_v vs 18) ≤ 99999999 := tv_rng t18
  have hds : ∀ q ∈ ([(5, 6, -4294967296, -1)] : List of_T), n_iv vs q.2.1 + q.2.2.1 ≤ n_iv vs q.1 ∧ n_iv vs q.1 ≤ n_iv vs q.2.1 + q.2.2.2 := hds
  obtain ⟨d0, hds⟩ := List.forall_mem_cons.mp hds
  have d0 : v_iv (n_v vs 6) + (-4294967296) ≤ v_iv (n_v vs 5) ∧ v_iv (n_v vs 5) ≤ v_iv (n_v vs 6) + (-1) := d0
  have hf : fc_ok [(23, [18, 2, 5], [33, 1, -1, -36]), (23, [16, 2, 5], [20, 1, -1, -36]), (23, [14, 2, 5], [13, 1, -1, -36]), (23, [10, 2, 5], [5, 1, -1, -36]), (23, [9, 2, 5], [0, 1, -1, -36]), (20, [6, 3], [30, 0, 1, 0, 0, -1, 3, 2005000]), (20, [6, 3], [30, 0, -1, 0, 0, 1, 3, 2005000]), (24, [0, 3], []), (20, [3, 18], [30, 1, 1, 1, 170, -1, 0, 0]), (102, [18], [237142198758023568227473377297792835283496928595231875152809132048206089502588928, 13170]), (23, [18, 2, 5], [33, 1, -1, -36]), (23, [16, 2, 5], [20, 1, -1, -36]), (23, [14, 2, 5], [13, 1, -1, -36]), (23, [10, 2, 5], [5, 1, -1, -36]), (23, [9, 2, 5], [0, 1, -1, -36]), (102, [16], [237142198758023568227473377297792835283496928595231875152809132048206089502588928, 13170]), (23, [16, 2, 5], [20, 1, -1, -36]), (23, [14, 2, 5], [13, 1, -1, -36]), (23, [10, 2, 5], [5, 1, -1, -36]), (23, [9, 2, 5], [0, 1, -1, -36]), (102, [14], [237142198758023568227473377297792835283496928595231875152809132048206089502588928, 13170]), (23, [14, 2, 5], [13, 1, -1, -36]), (23, [10, 2, 5], [5, 1, -1, -36]), (23, [9, 2, 5], [0, 1, -1, -36]), (102, [10], [237142198758023568227473377297792835283496928595231875152809132048206089502588928, 13170]), (23, [10, 2, 5], [5, 1, -1, -36]), (23, [9, 2, 5], [0, 1, -1, -36]), (102, [9], [237142198758023568227473377297792835283496928595231875152809132048206089502588928, 13170]), (23, [9, 2, 5], [0, 1, -1, -36]), (7, [5, 6], [2])] ta ws vs := hf
  obtain ⟨f0, hf⟩ := fc_un (show (23 : Nat) < 100 from by decide) hf
  have f0 : 1 * v_iv (n_v vs 18) + ((-1) * v_iv (n_v vs 2) + ((-36) * v_iv (n_v vs 5) + 0)) ≤ 33 := f0
  obtain ⟨f1, hf⟩ := fc_un (show (23 : Nat) < 100 from by decide) hf
  have f1 : 1 * v_iv (n_v vs 16) + ((-1) * v_iv (n_v vs 2) + ((-36) * v_iv (n_v vs 5) + 0)) ≤ 20 := f1
  obtain ⟨f2, hf⟩ := fc_un (show (23 : Nat) < 100 from by decide) hf
  have f2 : 1 * v_iv (n_v vs 14) + ((-1) * v_iv (n_v vs 2) + ((-36) * v_iv (n_v vs 5) + 0)) ≤ 13 := f2
  obtain ⟨f3, hf⟩ := fc_un (show (23 : Nat) < 100 from by decide) hf
  have f3 : 1 * v_iv (n_v vs 10) + ((-1) * v_iv (n_v vs 2) + ((-36) * v_iv (n_v vs 5) + 0)) ≤ 5 := f3
  obtain ⟨f4, hf⟩ := fc_un (show (23 : Nat) < 100 from by decide) hf
  have f4 : 1 * v_iv (n_v vs 9) + ((-1) * v_iv (n_v vs 2) + ((-36) * v_iv (n_v vs 5) + 0)) ≤ 0 := f4
  obtain ⟨f5, hf⟩ := fc_un (show (20 : Nat) < 100 from by decide) hf
  have f5 : 1 * v_iv (n_v vs 6) + ((-1) * w_el ws (w_ar ws (n_v vs 3) 2) (w_fi ws (n_v vs 3) 5 + 0).toNat + 0) ≤ 0 := f5
  obtain ⟨f6, hf⟩ := fc_un (show (20 : Nat) < 100 from by decide) hf
  have f6 : (-1) * v_iv (n_v vs 6) + (1 * w_el ws (w_ar ws (n_v vs 3) 2) (w_fi ws (n_v vs 3) 5 + 0).toNat + 0) ≤ 0 := f6
  obtain ⟨f7, hf⟩ := fc_un (show (24 : Nat) < 100 from by decide) hf
  have f7 : n_v vs 0 = n_v vs 3 := f7
  obtain ⟨f8, hf⟩ := fc_un (show (20 : Nat) < 100 from by decide) hf
  have f8 : 1 * w_fi ws (n_v vs 3) 170 + ((-1) * v_iv (n_v vs 18) + 0) ≤ 1 := f8
  obtain ⟨ta1, w1, le1, ⟨_, s1⟩, hf⟩ := fc_us (show ¬ (102 : Nat) < 100 from by decide) hf
  obtain ⟨f10, hf⟩ := fc_un (show (23 : Nat) < 100 from by decide) hf
  have f10 : 1 * v_iv (n_v vs 18) + ((-1) * v_iv (n_v vs 2) + ((-36) * v_iv (n_v vs 5) + 0)) ≤ 33 := f10
  obtain ⟨f11, hf⟩ := fc_un (show (23 : Nat) < 100 from by decide) hf
  have f11 : 1 * v_iv (n_v vs 16) + ((-1) * v_iv (n_v vs 2) + ((-36) * v_iv (n_v vs 5) + 0)) ≤ 20 := f11
  obtain ⟨f12, hf⟩ := fc_un (show (23 : Nat) < 100 from by decide) hf
  have f12 : 1 * v_iv (n_v vs 14) + ((-1) * v_iv (n_v vs 2) + ((-36) * v_iv (n_v vs 5) + 0)) ≤ 13 := f12
  obtain ⟨f13, hf⟩ := fc_un (show (23 : Nat) < 100 from by decide) hf
  have f13 : 1 * v_iv (n_v vs 10) + ((-1) * v_iv (n_v vs 2) + ((-36) * v_iv (n_v vs 5) + 0)) ≤ 5 := f13
  obtain ⟨f14, hf⟩ := fc_un (show (23 : Nat) < 100 from by decide) hf
  have f14 : 1 * v_iv (n_v vs 9) + ((-1) * v_iv (n_v vs 2) + ((-36) * v_iv (n_v vs 5) + 0)) ≤ 0 := f14
  obtain ⟨ta2, w2, le2, ⟨_, s2⟩, hf⟩ := fc_us (show ¬ (102 : Nat) < 100 from by decide) hf
  obtain ⟨f16, hf⟩ := fc_un (show (23 : Nat) < 100 from by decide) hf
  have f16 : 1 * v_iv (n_v vs 16) + ((-1) * v_iv (n_v vs 2) + ((-36) * v_iv (n_v vs 5) + 0)) ≤ 20 := f16
  obtain ⟨f17, hf⟩ := fc_un (show (23 : Nat) < 100 from by decide) hf
  have f17 : 1 * v_iv (n_v vs 14) + ((-1) * v_iv (n_v vs 2) + ((-36) * v_iv (n_v vs 5) + 0)) ≤ 13 := f17
  obtain ⟨f18, hf⟩ := fc_un (show (23 : Nat) < 100 from by decide) hf
  have f18 : 1 * v_iv (n_v vs 10) + ((-1) * v_iv (n_v vs 2) + ((-36) * v_iv (n_v vs 5) + 0)) ≤ 5 := f18
  obtain ⟨f19, hf⟩ := fc_un (show (23 : Nat) < 100 from by decide) hf
  have f19 : 1 * v_iv (n_v vs 9) + ((-1) * v_iv (n_v vs 2) + ((-36) * v_iv (n_v vs 5) + 0)) ≤ 0 := f19
  obtain ⟨ta3, w3, le3, ⟨_, s3⟩, hf⟩ := fc_us (show ¬ (102 : Nat) < 100 from by decide) hf
  obtain ⟨f21, hf⟩ := fc_un (show (23 : Nat) < 100 from by decide) hf
  have f21 : 1 * v_iv (n_v vs 14) + ((-1) * v_iv (n_v vs 2) + ((-36) * v_iv (n_v vs 5) + 0)) ≤ 13 := f21
  obtain ⟨f22, hf⟩ := fc_un (show (23 : Nat) < 100 from by decide) hf
  have f22 : 1 * v_iv (n_v vs 10) + ((-1) * v_iv (n_v vs 2) + ((-36) * v_iv (n_v vs 5) + 0)) ≤ 5 := f22
  obtain ⟨f23, hf⟩ := fc_un (show (23 : Nat) < 100 from by decide) hf
  have f23 : 1 * v_iv (n_v vs 9) + ((-1) * v_iv (n_v vs 2) + ((-36) * v_iv (n_v vs 5) + 0)) ≤ 0 := f23
  obtain ⟨ta4, w4, le4, ⟨_, s4⟩, hf⟩ := fc_us (show ¬ (102 : Nat) < 100 from by decide) hf
  obtain ⟨f25, hf⟩ := fc_un (show (23 : Nat) < 100 from by decide) hf
  have f25 : 1 * v_iv (n_v vs 10) + ((-1) * v_iv (n_v vs 2) + ((-36) * v_iv (n_v vs 5) + 0)) ≤ 5 := f25
  obtain ⟨f26, hf⟩ := fc_un (show (23 : Nat) < 100 from by decide) hf
  have f26 : 1 * v_iv (n_v vs 9) + ((-1) * v_iv (n_v vs 2) + ((-36) * v_iv (n_v vs 5) + 0)) ≤ 0 := f26
  obtain ⟨ta5, w5, le5, ⟨_, s5⟩, hf⟩ := fc_us (show ¬ (102 : Nat) < 100 from by decide) hf
  obtain ⟨f28, hf⟩ := fc_un (show (23 : Nat) < 100 from by decide) hf
  have f28 : 1 * v_iv (n_v vs 9) + ((-1) * v_iv (n_v vs 2) + ((-36) * v_iv (n_v vs 5) + 0)) ≤ 0 := f28
  obtain ⟨f29, hf⟩ := fc_un (show (7 : Nat) < 100 from by decide) hf
  have f29 : v_iv (n_v vs 5) < v_iv (n_v vs 6) := f29
  have q3 : n_v vs 3 = n_v vs 0 := f7.symm
  rw [q3] at f5
  rw [q3] at f6
  rw [q3] at f8
  have cr_0_2 : ta (w_ar ws (n_v vs 0) 2) = some 152 := tv_rg (th_fd hD hth r0 (g := GG_150) rfl (k := 2) (t := (2, 0, 0, [152])) rfl rfl)
  have kz_0_170 : 0 ≤ w_fi ws (n_v vs 0) 170 ∧ w_fi ws (n_v vs 0) 170 ≤ 100000000 := tv_rng (th_fd hD hth r0 (g := GG_150) rfl (k := 170) (t := (0, 0, 100000000, [])) rfl rfl)
  have kv0 : 0 ≤ w_fi ws (n_v vs 0) 170 ∧ w_fi ws (n_v vs 0) 170 ≤ 100000000 := tv_rng (th_fd hD hth r0 (g := GG_150) rfl (k := 170) (t := (0, 0, 100000000, [])) rfl rfl)
  obtain ⟨x, ex, hx⟩ := iv_ex (ta := ta) (lo := 0) (hi := 99999998) (z := w_fi ws (n_v vs 0) 170) (by omega) (by omega) (by omega) (by omega)
  have ex2 : v_iv (Value.int x) = w_fi ws (n_v vs 0) 170 := ex
  have ex3 : 0 ≤ v_iv (Value.int x) ∧ v_iv (Value.int x) ≤ 99999998 := tv_rng hx
  have e_2 : n_v (vs ++ [Value.int x]) 2 = n_v vs 2 := n_v_old (by rw [hl]; decide)
  have e_3 : n_v (vs ++ [Value.int x]) 3 = n_v vs 3 := n_v_old (by rw [hl]; decide)
  have e_5 : n_v (vs ++ [Value.int x]) 5 = n_v vs 5 := n_v_old (by rw [hl]; decide)
  have e_20 : n_v (vs ++ [Value.int x]) 20 = Value.int x := n_v_new hl
  have nf0 : fc_1 (20, [3, 20], [30, 0, 1, 1, 170, -1, 0, 0]) ws (vs ++ [Value.int x]) := by
    refine ⟨fun n hn => ?_, ?_⟩
    · have hn : n ∈ [3, 20] := hn
      rw [List.length_append, hl]
      simp only [List.mem_cons, List.not_mem_nil, or_false] at hn
      show n < 20 + 1; omega
    · show 1 * w_fi ws (n_v (vs ++ [Value.int x]) 3) 170 + ((-1) * v_iv (n_v (vs ++ [Value.int x]) 20) + 0) ≤ 0
      rw [e_3]
      rw [e_20]
      rw [q3]
      omega
  have nf1 : fc_1 (23, [20, 2, 5], [34, 1, -1, -36]) ws (vs ++ [Value.int x]) := by
    refine ⟨fun n hn => ?_, ?_⟩
    · have hn : n ∈ [20, 2, 5] := hn
      rw [List.length_append, hl]
      simp only [List.mem_cons, List.not_mem_nil, or_false] at hn
      show n < 20 + 1; omega
    · show 1 * v_iv (n_v (vs ++ [Value.int x]) 20) + ((-1) * v_iv (n_v (vs ++ [Value.int x]) 2) + ((-36) * v_iv (n_v (vs ++ [Value.int x]) 5) + 0)) ≤ 34
      rw [e_2]
      rw [e_5]
      rw [e_20]
      omega
  exact ⟨(fun _ h => (by cases h)), [Value.int x], ag_one hx, List.forall_mem_cons.mpr ⟨⟨show (20 : Nat) < 100 from by decide, nf0⟩, List.forall_mem_cons.mpr ⟨⟨show (23 : Nat) < 100 from by decide, nf1⟩, (fun _ h => (by cases h))⟩⟩, (fun _ h => (by cases h))⟩
def o_Mo_writeGroup_at_l5_10 : or_T := (2, 22, [(0, (2, 0, 0, [150])), (2, (0, 0, 99995604, [])), (3, (2, 0, 0, [150])), (5, (0, 0, 23, [])), (6, (0, 1, 24, [])), (9, (0, 0, 99999995, [])), (10, (0, 0, 99999992, [])), (14, (0, 0, 99999993, [])), (16, (0, 0, 99999987, [])), (18, (0, 0, 99999999, [])), (20, (0, 0, 99999998, [])), (21, (0, 1, 24, []))], [(6, [21, 5], [1]), (23, [20, 2, 5], [34, 1, -1, -36]), (23, [18, 2, 5], [33, 1, -1, -36]), (23, [16, 2, 5], [20, 1, -1, -36]), (23, [14, 2, 5], [13, 1, -1, -36]), (23, [10, 2, 5], [5, 1, -1, -36]), (23, [9, 2, 5], [0, 1, -1, -36]), (20, [6, 3], [30, 0, 1, 0, 0, -1, 3, 2005000]), (20, [6, 3], [30, 0, -1, 0, 0, 1, 3, 2005000]), (24, [0, 3], []), (20, [3, 20], [30, 2, 1, 1, 170, -1, 0, 0]), (102, [20], [237142198758023568227473377297792835283496928595231875152809132048206089502588928, 13170]), (23, [20, 2, 5], [34, 1, -1, -36]), (23, [18, 2, 5], [33, 1, -1, -36]), (23, [16, 2, 5], [20, 1, -1, -36]), (23, [14, 2, 5], [13, 1, -1, -36]), (23, [10, 2, 5], [5, 1, -1, -36]), (23, [9, 2, 5], [0, 1, -1, -36]), (102, [18], [237142198758023568227473377297792835283496928595231875152809132048206089502588928, 13170]), (23, [18, 2, 5], [33, 1, -1, -36]), (23, [16, 2, 5], [20, 1, -1, -36]), (23, [14, 2, 5], [13, 1, -1, -36]), (23, [10, 2, 5], [5, 1, -1, -36]), (23, [9, 2, 5], [0, 1, -1, -36]), (102, [16], [237142198758023568227473377297792835283496928595231875152809132048206089502588928, 13170]), (23, [16, 2, 5], [20, 1, -1, -36]), (23, [14, 2, 5], [13, 1, -1, -36]), (23, [10, 2, 5], [5, 1, -1, -36]), (23, [9, 2, 5], [0, 1, -1, -36]), (102, [14], [237142198758023568227473377297792835283496928595231875152809132048206089502588928, 13170]), (23, [14, 2, 5], [13, 1, -1, -36]), (23, [10, 2, 5], [5, 1, -1, -36]), (23, [9, 2, 5], [0, 1, -1, -36]), (102, [10], [237142198758023568227473377297792835283496928595231875152809132048206089502588928, 13170]), (23, [10, 2, 5], [5, 1, -1, -36]), (23, [9, 2, 5], [0, 1, -1, -36]), (102, [9], [237142198758023568227473377297792835283496928595231875152809132048206089502588928, 13170]), (23, [9, 2, 5], [0, 1, -1, -36]), (7, [5, 6], [2])], [], [], [(20, [3, 2, 21], [30, 0, 1, 1, 170, -1, 0, 0, -36, 0, 0])], [], [(21, 5, 1, 1), (21, 6, -4294967296, 0), (5, 6, -4294967296, -1)])
theorem oo_Mo_writeGroup_at_l5_10 {kA : Nat → ClassId} : or_ok kA GG o_Mo_writeGroup_at_l5_10 := by
  intro A ta ws vs hD hth hl hk hds hf
  have hl : vs.length = 22 := hl
  have hk : ∀ q ∈ ([(0, (2, 0, 0, [150])), (2, (0, 0, 99995604, [])), (3, (2, 0, 0, [150])), (5, (0, 0, 23, [])), (6, (0, 1, 24, [])), (9, (0, 0, 99999995, [])), (10, (0, 0, 99999992, [])), (14, (0, 0, 99999993, [])), (16, (0, 0, 99999987, [])), (18, (0, 0, 99999999, [])), (20, (0, 0, 99999998, [])), (21, (0, 1, 24, []))] : List (Nat × tv_T)), tv_ok ta q.2 (n_v vs q.1) := hk
  obtain ⟨t0, hk⟩ := List.forall_mem_cons.mp hk
  have t0 : tv_ok ta (2, 0, 0, [150]) (n_v vs 0) := t0
  have r0 : ta (v_ad (n_v vs 0)) = some 150 := tv_rg t0
  obtain ⟨t2, hk⟩ := List.forall_mem_cons.mp hk
  have t2 : tv_ok ta (0, 0, 99995604, []) (n_v vs 2) := t2
  have k2 : 0 ≤ v_iv (n_v vs 2) ∧ v_iv (n_v vs 2) ≤ 99995604 := tv_rng t2
  obtain ⟨t3, hk⟩ := List.forall_mem_cons.mp hk
  have t3 : tv_ok ta (2, 0, 0, [150]) (n_v vs 3) := t3
  have r3 : ta (v_ad (n_v vs 3)) = some 150 := tv_rg t3
  obtain ⟨t5, hk⟩ := List.forall_mem_cons.mp hk
  have t5 : tv_ok ta (0, 0, 23, []) (n_v vs 5) := t5
  have k5 : 0 ≤ v_iv (n_v vs 5) ∧ v_iv (n_v vs 5) ≤ 23 := tv_rng t5
  obtain ⟨t6, hk⟩ := List.forall_mem_cons.mp hk
  have t6 : tv_ok ta (0, 1, 24, []) (n_v vs 6) := t6
  have k6 : 1 ≤ v_iv (n_v vs 6) ∧ v_iv (n_v vs 6) ≤ 24 := tv_rng t6
  obtain ⟨t9, hk⟩ := List.forall_mem_cons.mp hk
  have t9 : tv_ok ta (0, 0, 99999995, []) (n_v vs 9) := t9
  have k9 : 0 ≤ v_iv (n_v vs 9) ∧ v_iv (n_v vs 9) ≤ 99999995 := tv_rng t9
  obtain ⟨t10, hk⟩ := List.forall_mem_cons.mp hk
  have t10 : tv_ok ta (0, 0, 99999992, []) (n_v vs 10) := t10
  have k10 : 0 ≤ v_iv (n_v vs 10) ∧ v_iv (n_v vs 10) ≤ 99999992 := tv_rng t10
  obtain ⟨t14, hk⟩ := List.forall_mem_cons.mp hk
  have t14 : tv_ok ta (0, 0, 99999993, []) (n_v vs 14) := t14
  have k14 : 0 ≤ v_iv (n_v vs 14) ∧ v_iv (n_v vs 14) ≤ 99999993 := tv_rng t14
  obtain ⟨t16, hk⟩ := List.forall_mem_cons.mp hk
  have t16 : tv_ok ta (0, 0, 99999987, []) (n_v vs 16) := t16
  have k16 : 0 ≤ v_iv (n_v vs 16) ∧ v_iv (n_v vs 16) ≤ 99999987 := tv_rng t16
  obtain ⟨t18, hk⟩ := List.forall_mem_cons.mp hk
  have t18 : tv_ok ta (0, 0, 99999999, []) (n_v vs 18) := t18
  have k18 : 0 ≤ v_iv (n_v vs 18) ∧ v_iv (n_v vs 18) ≤ 99999999 := tv_rng t18
  obtain ⟨t20, hk⟩ := List.forall_mem_cons.mp hk
  have t20 : tv_ok ta (0, 0, 99999998, []) (n_v vs 20) := t20
  have k20 : 0 ≤ v_iv (n_v vs 20) ∧ v_iv (n_v vs 20) ≤ 99999998 := tv_rng t20
  obtain ⟨t21, hk⟩ := List.forall_mem_cons.mp hk
  have t21 : tv_ok ta (0, 1, 24, []) (n_v vs 21) := t21
  have k21 : 1 ≤ v_iv (n_v vs 21) ∧ v_iv (n_v vs 21) ≤ 24 := tv_rng t21
  have hds : ∀ q ∈ ([(21, 5, 1, 1), (21, 6, -4294967296, 0), (5, 6, -4294967296, -1)] : List of_T), n_iv vs q.2.1 + q.2.2.1 ≤ n_iv vs q.1 ∧ n_iv vs q.1 ≤ n_iv vs q.2.1 + q.2.2.2 := hds
  obtain ⟨d0, hds⟩ := List.forall_mem_cons.mp hds
  have d0 : v_iv (n_v vs 5) + 1 ≤ v_iv (n_v vs 21) ∧ v_iv (n_v vs 21) ≤ v_iv (n_v vs 5) + 1 := d0
  obtain ⟨d1, hds⟩ := List.forall_mem_cons.mp hds
  have d1 : v_iv (n_v vs 6) + (-4294967296) ≤ v_iv (n_v vs 21) ∧ v_iv (n_v vs 21) ≤ v_iv (n_v vs 6) + 0 := d1
  obtain ⟨d2, hds⟩ := List.forall_mem_cons.mp hds
  have d2 : v_iv (n_v vs 6) + (-4294967296) ≤ v_iv (n_v vs 5) ∧ v_iv (n_v vs 5) ≤ v_iv (n_v vs 6) + (-1) := d2
  have hf : fc_ok [(6, [21, 5], [1]), (23, [20, 2, 5], [34, 1, -1, -36]), (23, [18, 2, 5], [33, 1, -1, -36]), (23, [16, 2, 5], [20, 1, -1, -36]), (23, [14, 2, 5], [13, 1, -1, -36]), (23, [10, 2, 5], [5, 1, -1, -36]), (23, [9, 2, 5], [0, 1, -1, -36]), (20, [6, 3], [30, 0, 1, 0, 0, -1, 3, 2005000]), (20, [6, 3], [30, 0, -1, 0, 0, 1, 3, 2005000]), (24, [0, 3], []), (20, [3, 20], [30, 2, 1, 1, 170, -1, 0, 0]), (102, [20], [237142198758023568227473377297792835283496928595231875152809132048206089502588928, 13170]), (23, [20, 2, 5], [34, 1, -1, -36]), (23, [18, 2, 5], [33, 1, -1, -36]), (23, [16, 2, 5], [20, 1, -1, -36]), (23, [14, 2, 5], [13, 1, -1, -36]), (23, [10, 2, 5], [5, 1, -1, -36]), (23, [9, 2, 5], [0, 1, -1, -36]), (102, [18], [237142198758023568227473377297792835283496928595231875152809132048206089502588928, 13170]), (23, [18, 2, 5], [33, 1, -1, -36]), (23, [16, 2, 5], [20, 1, -1, -36]), (23, [14, 2, 5], [13, 1, -1, -36]), (23, [10, 2, 5], [5, 1, -1, -36]), (23, [9, 2, 5], [0, 1, -1, -36]), (102, [16], [237142198758023568227473377297792835283496928595231875152809132048206089502588928, 13170]), (23, [16, 2, 5], [20, 1, -1, -36]), (23, [14, 2, 5], [13, 1, -1, -36]), (23, [10, 2, 5], [5, 1, -1, -36]), (23, [9, 2, 5], [0, 1, -1, -36]), (102, [14], [237142198758023568227473377297792835283496928595231875152809132048206089502588928, 13170]), (23, [14, 2, 5], [13, 1, -1, -36]), (23, [10, 2, 5], [5, 1, -1, -36]), (23, [9, 2, 5], [0, 1, -1, -36]), (102, [10], [237142198758023568227473377297792835283496928595231875152809132048206089502588928, 13170]), (23, [10, 2, 5], [5, 1, -1, -36]), (23, [9, 2, 5], [0, 1, -1, -36]), (102, [9], [237142198758023568227473377297792835283496928595231875152809132048206089502588928, 13170]), (23, [9, 2, 5], [0, 1, -1, -36]), (7, [5, 6], [2])] ta ws vs := hf
  obtain ⟨f0, hf⟩ := fc_un (show (6 : Nat) < 100 from by decide) hf
  have f0 : v_iv (n_v vs 21) = v_iv (n_v vs 5) + 1 := f0
  obtain ⟨f1, hf⟩ := fc_un (show (23 : Nat) < 100 from by decide) hf
  have f1 : 1 * v_iv (n_v vs 20) + ((-1) * v_iv (n_v vs 2) + ((-36) * v_iv (n_v vs 5) + 0)) ≤ 34 := f1
  obtain ⟨f2, hf⟩ := fc_un (show (23 : Nat) < 100 from by decide) hf
  have f2 : 1 * v_iv (n_v vs 18) + ((-1) * v_iv (n_v vs 2) + ((-36) * v_iv (n_v vs 5) + 0)) ≤ 33 := f2
  obtain ⟨f3, hf⟩ := fc_un (show (23 : Nat) < 100 from by decide) hf
  have f3 : 1 * v_iv (n_v vs 16) + ((-1) * v_iv (n_v vs 2) + ((-36) * v_iv (n_v vs 5) + 0)) ≤ 20 := f3
  obtain ⟨f4, hf⟩ := fc_un (show (23 : Nat) < 100 from by decide) hf
  have f4 : 1 * v_iv (n_v vs 14) + ((-1) * v_iv (n_v vs 2) + ((-36) * v_iv (n_v vs 5) + 0)) ≤ 13 := f4
  obtain ⟨f5, hf⟩ := fc_un (show (23 : Nat) < 100 from by decide) hf
  have f5 : 1 * v_iv (n_v vs 10) + ((-1) * v_iv (n_v vs 2) + ((-36) * v_iv (n_v vs 5) + 0)) ≤ 5 := f5
  obtain ⟨f6, hf⟩ := fc_un (show (23 : Nat) < 100 from by decide) hf
  have f6 : 1 * v_iv (n_v vs 9) + ((-1) * v_iv (n_v vs 2) + ((-36) * v_iv (n_v vs 5) + 0)) ≤ 0 := f6
  obtain ⟨f7, hf⟩ := fc_un (show (20 : Nat) < 100 from by decide) hf
  have f7 : 1 * v_iv (n_v vs 6) + ((-1) * w_el ws (w_ar ws (n_v vs 3) 2) (w_fi ws (n_v vs 3) 5 + 0).toNat + 0) ≤ 0 := f7
  obtain ⟨f8, hf⟩ := fc_un (show (20 : Nat) < 100 from by decide) hf
  have f8 : (-1) * v_iv (n_v vs 6) + (1 * w_el ws (w_ar ws (n_v vs 3) 2) (w_fi ws (n_v vs 3) 5 + 0).toNat + 0) ≤ 0 := f8
  obtain ⟨f9, hf⟩ := fc_un (show (24 : Nat) < 100 from by decide) hf
  have f9 : n_v vs 0 = n_v vs 3 := f9
  obtain ⟨f10, hf⟩ := fc_un (show (20 : Nat) < 100 from by decide) hf
  have f10 : 1 * w_fi ws (n_v vs 3) 170 + ((-1) * v_iv (n_v vs 20) + 0) ≤ 2 := f10
  obtain ⟨ta1, w1, le1, ⟨_, s1⟩, hf⟩ := fc_us (show ¬ (102 : Nat) < 100 from by decide) hf
  obtain ⟨f12, hf⟩ := fc_un (show (23 : Nat) < 100 from by decide) hf
  have f12 : 1 * v_iv (n_v vs 20) + ((-1) * v_iv (n_v vs 2) + ((-36) * v_iv (n_v vs 5) + 0)) ≤ 34 := f12
  obtain ⟨f13, hf⟩ := fc_un (show (23 : Nat) < 100 from by decide) hf
  have f13 : 1 * v_iv (n_v vs 18) + ((-1) * v_iv (n_v vs 2) + ((-36) * v_iv (n_v vs 5) + 0)) ≤ 33 := f13
  obtain ⟨f14, hf⟩ := fc_un (show (23 : Nat) < 100 from by decide) hf
  have f14 : 1 * v_iv (n_v vs 16) + ((-1) * v_iv (n_v vs 2) + ((-36) * v_iv (n_v vs 5) + 0)) ≤ 20 := f14
  obtain ⟨f15, hf⟩ := fc_un (show (23 : Nat) < 100 from by decide) hf
  have f15 : 1 * v_iv (n_v vs 14) + ((-1) * v_iv (n_v vs 2) + ((-36) * v_iv (n_v vs 5) + 0)) ≤ 13 := f15
  obtain ⟨f16, hf⟩ := fc_un (show (23 : Nat) < 100 from by decide) hf
  have f16 : 1 * v_iv (n_v vs 10) + ((-1) * v_iv (n_v vs 2) + ((-36) * v_iv (n_v vs 5) + 0)) ≤ 5 := f16
  obtain ⟨f17, hf⟩ := fc_un (show (23 : Nat) < 100 from by decide) hf
  have f17 : 1 * v_iv (n_v vs 9) + ((-1) * v_iv (n_v vs 2) + ((-36) * v_iv (n_v vs 5) + 0)) ≤ 0 := f17
  obtain ⟨ta2, w2, le2, ⟨_, s2⟩, hf⟩ := fc_us (show ¬ (102 : Nat) < 100 from by decide) hf
  obtain ⟨f19, hf⟩ := fc_un (show (23 : Nat) < 100 from by decide) hf
  have f19 : 1 * v_iv (n_v vs 18) + ((-1) * v_iv (n_v vs 2) + ((-36) * v_iv (n_v vs 5) + 0)) ≤ 33 := f19
  obtain ⟨f20, hf⟩ := fc_un (show (23 : Nat) < 100 from by decide) hf
  have f20 : 1 * v_iv (n_v vs 16) + ((-1) * v_iv (n_v vs 2) + ((-36) * v_iv (n_v vs 5) + 0)) ≤ 20 := f20
  obtain ⟨f21, hf⟩ := fc_un (show (23 : Nat) < 100 from by decide) hf
  have f21 : 1 * v_iv (n_v vs 14) + ((-1) * v_iv (n_v vs 2) + ((-36) * v_iv (n_v vs 5) + 0)) ≤ 13 := f21
  obtain ⟨f22, hf⟩ := fc_un (show (23 : Nat) < 100 from by decide) hf
  have f22 : 1 * v_iv (n_v vs 10) + ((-1) * v_iv (n_v vs 2) + ((-36) * v_iv (n_v vs 5) + 0)) ≤ 5 := f22
  obtain ⟨f23, hf⟩ := fc_un (show (23 : Nat) < 100 from by decide) hf
  have f23 : 1 * v_iv (n_v vs 9) + ((-1) * v_iv (n_v vs 2) + ((-36) * v_iv (n_v vs 5) + 0)) ≤ 0 := f23
  obtain ⟨ta3, w3, le3, ⟨_, s3⟩, hf⟩ := fc_us (show ¬ (102 : Nat) < 100 from by decide) hf
  obtain ⟨f25, hf⟩ := fc_un (show (23 : Nat) < 100 from by decide) hf
  have f25 : 1 * v_iv (n_v vs 16) + ((-1) * v_iv (n_v vs 2) + ((-36) * v_iv (n_v vs 5) + 0)) ≤ 20 := f25
  obtain ⟨f26, hf⟩ := fc_un (show (23 : Nat) < 100 from by decide) hf
  have f26 : 1 * v_iv (n_v vs 14) + ((-1) * v_iv (n_v vs 2) + ((-36) * v_iv (n_v vs 5) + 0)) ≤ 13 := f26
  obtain ⟨f27, hf⟩ := fc_un (show (23 : Nat) < 100 from by decide) hf
  have f27 : 1 * v_iv (n_v vs 10) + ((-1) * v_iv (n_v vs 2) + ((-36) * v_iv (n_v vs 5) + 0)) ≤ 5 := f27
  obtain ⟨f28, hf⟩ := fc_un (show (23 : Nat) < 100 from by decide) hf
  have f28 : 1 * v_iv (n_v vs 9) + ((-1) * v_iv (n_v vs 2) + ((-36) * v_iv (n_v vs 5) + 0)) ≤ 0 := f28
  obtain ⟨ta4, w4, le4, ⟨_, s4⟩, hf⟩ := fc_us (show ¬ (102 : Nat) < 100 from by decide) hf
  obtain ⟨f30, hf⟩ := fc_un (show (23 : Nat) < 100 from by decide) hf
  have f30 : 1 * v_iv (n_v vs 14) + ((-1) * v_iv (n_v vs 2) + ((-36) * v_iv (n_v vs 5) + 0)) ≤ 13 := f30
  obtain ⟨f31, hf⟩ := fc_un (show (23 : Nat) < 100 from by decide) hf
  have f31 : 1 * v_iv (n_v vs 10) + ((-1) * v_iv (n_v vs 2) + ((-36) * v_iv (n_v vs 5) + 0)) ≤ 5 := f31
  obtain ⟨f32, hf⟩ := fc_un (show (23 : Nat) < 100 from by decide) hf
  have f32 : 1 * v_iv (n_v vs 9) + ((-1) * v_iv (n_v vs 2) + ((-36) * v_iv (n_v vs 5) + 0)) ≤ 0 := f32
  obtain ⟨ta5, w5, le5, ⟨_, s5⟩, hf⟩ := fc_us (show ¬ (102 : Nat) < 100 from by decide) hf
  obtain ⟨f34, hf⟩ := fc_un (show (23 : Nat) < 100 from by decide) hf
  have f34 : 1 * v_iv (n_v vs 10) + ((-1) * v_iv (n_v vs 2) + ((-36) * v_iv (n_v vs 5) + 0)) ≤ 5 := f34
  obtain ⟨f35, hf⟩ := fc_un (show (23 : Nat) < 100 from by decide) hf
  have f35 : 1 * v_iv (n_v vs 9) + ((-1) * v_iv (n_v vs 2) + ((-36) * v_iv (n_v vs 5) + 0)) ≤ 0 := f35
  obtain ⟨ta6, w6, le6, ⟨_, s6⟩, hf⟩ := fc_us (show ¬ (102 : Nat) < 100 from by decide) hf
  obtain ⟨f37, hf⟩ := fc_un (show (23 : Nat) < 100 from by decide) hf
  have f37 : 1 * v_iv (n_v vs 9) + ((-1) * v_iv (n_v vs 2) + ((-36) * v_iv (n_v vs 5) + 0)) ≤ 0 := f37
  obtain ⟨f38, hf⟩ := fc_un (show (7 : Nat) < 100 from by decide) hf
  have f38 : v_iv (n_v vs 5) < v_iv (n_v vs 6) := f38
  have q3 : n_v vs 3 = n_v vs 0 := f9.symm
  rw [q3] at f7
  rw [q3] at f8
  rw [q3] at f10
  have cr_0_2 : ta (w_ar ws (n_v vs 0) 2) = some 152 := tv_rg (th_fd hD hth r0 (g := GG_150) rfl (k := 2) (t := (2, 0, 0, [152])) rfl rfl)
  have kz_0_170 : 0 ≤ w_fi ws (n_v vs 0) 170 ∧ w_fi ws (n_v vs 0) 170 ≤ 100000000 := tv_rng (th_fd hD hth r0 (g := GG_150) rfl (k := 170) (t := (0, 0, 100000000, [])) rfl rfl)
  have nf0 : fc_1 (20, [3, 2, 21], [30, 0, 1, 1, 170, -1, 0, 0, -36, 0, 0]) ws (vs) := by
    refine ⟨fun n hn => ?_, ?_⟩
    · have hn : n ∈ [3, 2, 21] := hn
      rw [hl]
      simp only [List.mem_cons, List.not_mem_nil, or_false] at hn
      show n < 22; omega
    · show 1 * w_fi ws (n_v vs 3) 170 + ((-1) * v_iv (n_v vs 2) + ((-36) * v_iv (n_v vs 21) + 0)) ≤ 0
      rw [q3]
      omega
  refine ⟨(fun _ h => (by cases h)), [], trivial, ?_, (fun _ h => (by cases h))⟩
  rw [List.append_nil]
  exact List.forall_mem_cons.mpr ⟨⟨show (20 : Nat) < 100 from by decide, nf0⟩, (fun _ h => (by cases h))⟩
def o_Mo_writeGroup_at_l5_11 : or_T := (2, 9, [(0, (2, 0, 0, [150])), (2, (0, 0, 99995604, [])), (3, (2, 0, 0, [150])), (5, (0, 0, 23, [])), (6, (0, 1, 24, [])), (8, (0, 1, 24, []))], [(6, [8, 5], [1]), (7, [5, 6], [2]), (20, [6, 3], [30, 0, 1, 0, 0, -1, 3, 2005000]), (20, [6, 3], [30, 0, -1, 0, 0, 1, 3, 2005000]), (20, [3, 2, 5], [30, 0, 1, 1, 170, -1, 0, 0, -36, 0, 0]), (24, [0, 3], [])], [], [], [(20, [3, 2, 8], [30, 0, 1, 1, 170, -1, 0, 0, -36, 0, 0])], [], [(8, 5, 1, 1), (8, 6, -4294967296, 0), (5, 6, -4294967296, -1)])
theorem oo_Mo_writeGroup_at_l5_11 {kA : Nat → ClassId} : or_ok kA GG o_Mo_writeGroup_at_l5_11 := by
  intro A ta ws vs hD hth hl hk hds hf
  have hl : vs.length = 9 := hl
  have hk : ∀ q ∈ ([(0, (2, 0, 0, [150])), (2, (0, 0, 99995604, [])), (3, (2, 0, 0, [150])), (5, (0, 0, 23, [])), (6, (0, 1, 24, [])), (8, (0, 1, 24, []))] : List (Nat × tv_T)), tv_ok ta q.2 (n_v vs q.1) := hk
  obtain ⟨t0, hk⟩ := List.forall_mem_cons.mp hk
  have t0 : tv_ok ta (2, 0, 0, [150]) (n_v vs 0) := t0
  have r0 : ta (v_ad (n_v vs 0)) = some 150 := tv_rg t0
  obtain ⟨t2, hk⟩ := List.forall_mem_cons.mp hk
  have t2 : tv_ok ta (0, 0, 99995604, []) (n_v vs 2) := t2
  have k2 : 0 ≤ v_iv (n_v vs 2) ∧ v_iv (n_v vs 2) ≤ 99995604 := tv_rng t2
  obtain ⟨t3, hk⟩ := List.forall_mem_cons.mp hk
  have t3 : tv_ok ta (2, 0, 0, [150]) (n_v vs 3) := t3
  have r3 : ta (v_ad (n_v vs 3)) = some 150 := tv_rg t3
  obtain ⟨t5, hk⟩ := List.forall_mem_cons.mp hk
  have t5 : tv_ok ta (0, 0, 23, []) (n_v vs 5) := t5
  have k5 : 0 ≤ v_iv (n_v vs 5) ∧ v_iv (n_v vs 5) ≤ 23 := tv_rng t5
  obtain ⟨t6, hk⟩ := List.forall_mem_cons.mp hk
  have t6 : tv_ok ta (0, 1, 24, []) (n_v vs 6) := t6
  have k6 : 1 ≤ v_iv (n_v vs 6) ∧ v_iv (n_v vs 6) ≤ 24 := tv_rng t6
  obtain ⟨t8, hk⟩ := List.forall_mem_cons.mp hk
  have t8 : tv_ok ta (0, 1, 24, []) (n_v vs 8) := t8
  have k8 : 1 ≤ v_iv (n_v vs 8) ∧ v_iv (n_v vs 8) ≤ 24 := tv_rng t8
  have hds : ∀ q ∈ ([(8, 5, 1, 1), (8, 6, -4294967296, 0), (5, 6, -4294967296, -1)] : List of_T), n_iv vs q.2.1 + q.2.2.1 ≤ n_iv vs q.1 ∧ n_iv vs q.1 ≤ n_iv vs q.2.1 + q.2.2.2 := hds
  obtain ⟨d0, hds⟩ := List.forall_mem_cons.mp hds
  have d0 : v_iv (n_v vs 5) + 1 ≤ v_iv (n_v vs 8) ∧ v_iv (n_v vs 8) ≤ v_iv (n_v vs 5) + 1 := d0
  obtain ⟨d1, hds⟩ := List.forall_mem_cons.mp hds
  have d1 : v_iv (n_v vs 6) + (-4294967296) ≤ v_iv (n_v vs 8) ∧ v_iv (n_v vs 8) ≤ v_iv (n_v vs 6) + 0 := d1
  obtain ⟨d2, hds⟩ := List.forall_mem_cons.mp hds
  have d2 : v_iv (n_v vs 6) + (-4294967296) ≤ v_iv (n_v vs 5) ∧ v_iv (n_v vs 5) ≤ v_iv (n_v vs 6) + (-1) := d2
  have hf : fc_ok [(6, [8, 5], [1]), (7, [5, 6], [2]), (20, [6, 3], [30, 0, 1, 0, 0, -1, 3, 2005000]), (20, [6, 3], [30, 0, -1, 0, 0, 1, 3, 2005000]), (20, [3, 2, 5], [30, 0, 1, 1, 170, -1, 0, 0, -36, 0, 0]), (24, [0, 3], [])] ta ws vs := hf
  obtain ⟨f0, hf⟩ := fc_un (show (6 : Nat) < 100 from by decide) hf
  have f0 : v_iv (n_v vs 8) = v_iv (n_v vs 5) + 1 := f0
  obtain ⟨f1, hf⟩ := fc_un (show (7 : Nat) < 100 from by decide) hf
  have f1 : v_iv (n_v vs 5) < v_iv (n_v vs 6) := f1
  obtain ⟨f2, hf⟩ := fc_un (show (20 : Nat) < 100 from by decide) hf
  have f2 : 1 * v_iv (n_v vs 6) + ((-1) * w_el ws (w_ar ws (n_v vs 3) 2) (w_fi ws (n_v vs 3) 5 + 0).toNat + 0) ≤ 0 := f2
  obtain ⟨f3, hf⟩ := fc_un (show (20 : Nat) < 100 from by decide) hf
  have f3 : (-1) * v_iv (n_v vs 6) + (1 * w_el ws (w_ar ws (n_v vs 3) 2) (w_fi ws (n_v vs 3) 5 + 0).toNat + 0) ≤ 0 := f3
  obtain ⟨f4, hf⟩ := fc_un (show (20 : Nat) < 100 from by decide) hf
  have f4 : 1 * w_fi ws (n_v vs 3) 170 + ((-1) * v_iv (n_v vs 2) + ((-36) * v_iv (n_v vs 5) + 0)) ≤ 0 := f4
  obtain ⟨f5, hf⟩ := fc_un (show (24 : Nat) < 100 from by decide) hf
  have f5 : n_v vs 0 = n_v vs 3 := f5
  have q3 : n_v vs 3 = n_v vs 0 := f5.symm
  rw [q3] at f2
  rw [q3] at f3
  rw [q3] at f4
  have cr_0_2 : ta (w_ar ws (n_v vs 0) 2) = some 152 := tv_rg (th_fd hD hth r0 (g := GG_150) rfl (k := 2) (t := (2, 0, 0, [152])) rfl rfl)
  have kz_0_170 : 0 ≤ w_fi ws (n_v vs 0) 170 ∧ w_fi ws (n_v vs 0) 170 ≤ 100000000 := tv_rng (th_fd hD hth r0 (g := GG_150) rfl (k := 170) (t := (0, 0, 100000000, [])) rfl rfl)
  have nf0 : fc_1 (20, [3, 2, 8], [30, 0, 1, 1, 170, -1, 0, 0, -36, 0, 0]) ws (vs) := by
    refine ⟨fun n hn => ?_, ?_⟩
    · have hn : n ∈ [3, 2, 8] := hn
      rw [hl]
      simp only [List.mem_cons, List.not_mem_nil, or_false] at hn
      show n < 9; omega
    · show 1 * w_fi ws (n_v vs 3) 170 + ((-1) * v_iv (n_v vs 2) + ((-36) * v_iv (n_v vs 8) + 0)) ≤ 0
      rw [q3]
      omega
  refine ⟨(fun _ h => (by cases h)), [], trivial, ?_, (fun _ h => (by cases h))⟩
  rw [List.append_nil]
  exact List.forall_mem_cons.mpr ⟨⟨show (20 : Nat) < 100 from by decide, nf0⟩, (fun _ h => (by cases h))⟩
def o_Mo_writeGroup_at_l5_12 : or_T := (177, 7, [(0, (2, 0, 0, [150])), (2, (0, 0, 99995604, [])), (3, (2, 0, 0, [150])), (4, (0, 5, 7, [])), (5, (0, 6, 8, [])), (6, (0, 0, 8, []))], [(7, [5, 6], [3]), (20, [6, 3], [30, 0, 1, 0, 0, -1, 3, 2005002]), (20, [6, 3], [30, 0, -1, 0, 0, 1, 3, 2005002]), (20, [3, 2, 5, 4], [30, -902, 1, 1, 170, -1, 0, 0, -1766, 0, 0, 1766, 0, 0]), (24, [0, 3], [])], [], [], [(20, [0, 2], [30, 4396, 1, 1, 170, -1, 0, 0])], [], [(5, 6, 0, 4294967296), (4, 2, -4294967296, 7), (4, 5, -4294967296, -1), (5, 2, -4294967296, 8), (5, 4, -4294967296, 3)])
theorem oo_Mo_writeGroup_at_l5_12 {kA : Nat → ClassId} : or_ok kA GG o_Mo_writeGroup_at_l5_12 := by
  intro A ta ws vs hD hth hl hk hds hf
  have hl : vs.length = 7 := hl
  have hk : ∀ q ∈ ([(0, (2, 0, 0, [150])), (2, (0, 0, 99995604, [])), (3, (2, 0, 0, [150])), (4, (0, 5, 7, [])), (5, (0, 6, 8, [])), (6, (0, 0, 8, []))] : List (Nat × tv_T)), tv_ok ta q.2 (n_v vs q.1) := hk
  obtain ⟨t0, hk⟩ := List.forall_mem_cons.mp hk
  have t0 : tv_ok ta (2, 0, 0, [150]) (n_v vs 0) := t0
  have r0 : ta (v_ad (n_v vs 0)) = some 150 := tv_rg t0
  obtain ⟨t2, hk⟩ := List.forall_mem_cons.mp hk
  have t2 : tv_ok ta (0, 0, 99995604, []) (n_v vs 2) := t2
  have k2 : 0 ≤ v_iv (n_v vs 2) ∧ v_iv (n_v vs 2) ≤ 99995604 := tv_rng t2
  obtain ⟨t3, hk⟩ := List.forall_mem_cons.mp hk
  have t3 : tv_ok ta (2, 0, 0, [150]) (n_v vs 3) := t3
  have r3 : ta (v_ad (n_v vs 3)) = some 150 := tv_rg t3
  obtain ⟨t4, hk⟩ := List.forall_mem_cons.mp hk
  have t4 : tv_ok ta (0, 5, 7, []) (n_v vs 4) := t4
  have k4 : 5 ≤ v_iv (n_v vs 4) ∧ v_iv (n_v vs 4) ≤ 7 := tv_rng t4
  obtain ⟨t5, hk⟩ := List.forall_mem_cons.mp hk
  have t5 : tv_ok ta (0, 6, 8, []) (n_v vs 5) := t5
  have k5 : 6 ≤ v_iv (n_v vs 5) ∧ v_iv (n_v vs 5) ≤ 8 := tv_rng t5
  obtain ⟨t6, hk⟩ := List.forall_mem_cons.mp hk
  have t6 : tv_ok ta (0, 0, 8, []) (n_v vs 6) := t6
  have k6 : 0 ≤ v_iv (n_v vs 6) ∧ v_iv (n_v vs 6) ≤ 8 := tv_rng t6
  have hds : ∀ q ∈ ([(5, 6, 0, 4294967296), (4, 2, -4294967296, 7), (4, 5, -4294967296, -1), (5, 2, -4294967296, 8), (5, 4, -4294967296, 3)] : List of_T), n_iv vs q.2.1 + q.2.2.1 ≤ n_iv vs q.1 ∧ n_iv vs q.1 ≤ n_iv vs q.2.1 + q.2.2.2 := hds
  obtain ⟨d0, hds⟩ := List.forall_mem_cons.mp hds
  have d0 : v_iv (n_v vs 6) + 0 ≤ v_iv (n_v vs 5) ∧ v_iv (n_v vs 5) ≤ v_iv (n_v vs 6) + 4294967296 := d0
  obtain ⟨d1, hds⟩ := List.forall_mem_cons.mp hds
  have d1 : v_iv (n_v vs 2) + (-4294967296) ≤ v_iv (n_v vs 4) ∧ v_iv (n_v vs 4) ≤ v_iv (n_v vs 2) + 7 := d1
  obtain ⟨d2, hds⟩ := List.forall_mem_cons.mp hds
  have d2 : v_iv (n_v vs 5) + (-4294967296) ≤ v_iv (n_v vs 4) ∧ v_iv (n_v vs 4) ≤ v_iv (n_v vs 5) + (-1) := d2
  obtain ⟨d3, hds⟩ := List.forall_mem_cons.mp hds
  have d3 : v_iv (n_v vs 2) + (-4294967296) ≤ v_iv (n_v vs 5) ∧ v_iv (n_v vs 5) ≤ v_iv (n_v vs 2) + 8 := d3
  obtain ⟨d4, hds⟩ := List.forall_mem_cons.mp hds
  have d4 : v_iv (n_v vs 4) + (-4294967296) ≤ v_iv (n_v vs 5) ∧ v_iv (n_v vs 5) ≤ v_iv (n_v vs 4) + 3 := d4
  have hf : fc_ok [(7, [5, 6], [3]), (20, [6, 3], [30, 0, 1, 0, 0, -1, 3, 2005002]), (20, [6, 3], [30, 0, -1, 0, 0, 1, 3, 2005002]), (20, [3, 2, 5, 4], [30, -902, 1, 1, 170, -1, 0, 0, -1766, 0, 0, 1766, 0, 0]), (24, [0, 3], [])] ta ws vs := hf
  obtain ⟨f0, hf⟩ := fc_un (show (7 : Nat) < 100 from by decide) hf
  have f0 : v_iv (n_v vs 6) ≤ v_iv (n_v vs 5) := f0
  obtain ⟨f1, hf⟩ := fc_un (show (20 : Nat) < 100 from by decide) hf
  have f1 : 1 * v_iv (n_v vs 6) + ((-1) * w_el ws (w_ar ws (n_v vs 3) 2) (w_fi ws (n_v vs 3) 5 + 2).toNat + 0) ≤ 0 := f1
  obtain ⟨f2, hf⟩ := fc_un (show (20 : Nat) < 100 from by decide) hf
  have f2 : (-1) * v_iv (n_v vs 6) + (1 * w_el ws (w_ar ws (n_v vs 3) 2) (w_fi ws (n_v vs 3) 5 + 2).toNat + 0) ≤ 0 := f2
  obtain ⟨f3, hf⟩ := fc_un (show (20 : Nat) < 100 from by decide) hf
  have f3 : 1 * w_fi ws (n_v vs 3) 170 + ((-1) * v_iv (n_v vs 2) + ((-1766) * v_iv (n_v vs 5) + (1766 * v_iv (n_v vs 4) + 0))) ≤ (-902) := f3
  obtain ⟨f4, hf⟩ := fc_un (show (24 : Nat) < 100 from by decide) hf
  have f4 : n_v vs 0 = n_v vs 3 := f4
  have q3 : n_v vs 3 = n_v vs 0 := f4.symm
  rw [q3] at f1
  rw [q3] at f2
  rw [q3] at f3
  have cr_0_2 : ta (w_ar ws (n_v vs 0) 2) = some 152 := tv_rg (th_fd hD hth r0 (g := GG_150) rfl (k := 2) (t := (2, 0, 0, [152])) rfl rfl)
  have kz_0_170 : 0 ≤ w_fi ws (n_v vs 0) 170 ∧ w_fi ws (n_v vs 0) 170 ≤ 100000000 := tv_rng (th_fd hD hth r0 (g := GG_150) rfl (k := 170) (t := (0, 0, 100000000, [])) rfl rfl)
  have nf0 : fc_1 (20, [0, 2], [30, 4396, 1, 1, 170, -1, 0, 0]) ws (vs) := by
    refine ⟨fun n hn => ?_, ?_⟩
    · have hn : n ∈ [0, 2] := hn
      rw [hl]
      simp only [List.mem_cons, List.not_mem_nil, or_false] at hn
      show n < 7; omega
    · show 1 * w_fi ws (n_v vs 0) 170 + ((-1) * v_iv (n_v vs 2) + 0) ≤ 4396
      omega
  refine ⟨(fun _ h => (by cases h)), [], trivial, ?_, (fun _ h => (by cases h))⟩
  rw [List.append_nil]
  exact List.forall_mem_cons.mpr ⟨⟨show (20 : Nat) < 100 from by decide, nf0⟩, (fun _ h => (by cases h))⟩
def o_Mo_writeGroup_at_l5_13 : or_T := (117, 14, [(0, (2, 0, 0, [150])), (2, (0, 0, 99995604, [])), (3, (2, 0, 0, [150])), (4, (0, 5, 6, [])), (5, (0, 6, 7, [])), (6, (0, 7, 8, [])), (7, (2, 0, 0, [152])), (8, (0, 0, 66297, [])), (9, (0, 531, 531, [])), (10, (0, 531, 66828, [])), (11, (0, 537, 66835, [])), (12, (0, 5, 6, []))], [(7, [12, 4], [0]), (10, [12, 7, 11], []), (1, [11, 10, 5], []), (1, [10, 8, 9], []), (9, [8, 3], [5]), (9, [7, 3], [2]), (7, [5, 6], [2]), (20, [6, 3], [30, 0, 1, 0, 0, -1, 3, 2005002]), (20, [6, 3], [30, 0, -1, 0, 0, 1, 3, 2005002]), (20, [3, 2, 5, 4], [30, -902, 1, 1, 170, -1, 0, 0, -1766, 0, 0, 1766, 0, 0]), (24, [0, 3], [])], [], [(0, 0, 99999994, [])], [(20, [3, 14], [30, 0, 1, 1, 170, -1, 0, 0]), (23, [14, 2, 5, 4], [-902, 1, -1, -1766, 1766])], [], [(12, 4, 0, 0), (11, 5, 531, 66828), (11, 6, -4294967296, 66827), (11, 2, -4294967296, 66836), (11, 4, -4294967296, 66831), (11, 10, 6, 7), (11, 8, 537, 538), (10, 8, 531, 531), (5, 6, -4294967296, -1), (4, 2, -4294967296, 7), (4, 5, -4294967296, -1), (5, 2, -4294967296, 8), (5, 4, -4294967296, 3)])
theorem oo_Mo_writeGroup_at_l5_13 {kA : Nat → ClassId} : or_ok kA GG o_Mo_writeGroup_at_l5_13 := by
  intro A ta ws vs hD hth hl hk hds hf
  have hl : vs.length = 14 := hl
  have hk : ∀ q ∈ ([(0, (2, 0, 0, [150])), (2, (0, 0, 99995604, [])), (3, (2, 0, 0, [150])), (4, (0, 5, 6, [])), (5, (0, 6, 7, [])), (6, (0, 7, 8, [])), (7, (2, 0, 0, [152])), (8, (0, 0, 66297, [])), (9, (0, 531, 531, [])), (10, (0, 531, 66828, [])), (11, (0, 537, 66835, [])), (12, (0, 5, 6, []))] : List (Nat × tv_T)), tv_ok ta q.2 (n_v vs q.1) := hk
  obtain ⟨t0, hk⟩ := List.forall_mem_cons.mp hk
  have t0 : tv_ok ta (2, 0, 0, [150]) (n_v vs 0) := t0
  have r0 : ta (v_ad (n_v vs 0)) = some 150 := tv_rg t0
  obtain ⟨t2, hk⟩ := List.forall_mem_cons.mp hk
  have t2 : tv_ok ta (0, 0, 99995604, []) (n_v vs 2) := t2
  have k2 : 0 ≤ v_iv (n_v vs 2) ∧ v_iv (n_v vs 2) ≤ 99995604 := tv_rng t2
  obtain ⟨t3, hk⟩ := List.forall_mem_cons.mp hk
  have t3 : tv_ok ta (2, 0, 0, [150]) (n_v vs 3) := t3
  have r3 : ta (v_ad (n_v vs 3)) = some 150 := tv_rg t3
  obtain ⟨t4, hk⟩ := List.forall_mem_cons.mp hk
  have t4 : tv_ok ta (0, 5, 6, []) (n_v vs 4) := t4
  have k4 : 5 ≤ v_iv (n_v vs 4) ∧ v_iv (n_v vs 4) ≤ 6 := tv_rng t4
  obtain ⟨t5, hk⟩ := List.forall_mem_cons.mp hk
  have t5 : tv_ok ta (0, 6, 7, []) (n_v vs 5) := t5
  have k5 : 6 ≤ v_iv (n_v vs 5) ∧ v_iv (n_v vs 5) ≤ 7 := tv_rng t5
  obtain ⟨t6, hk⟩ := List.forall_mem_cons.mp hk
  have t6 : tv_ok ta (0, 7, 8, []) (n_v vs 6) := t6
  have k6 : 7 ≤ v_iv (n_v vs 6) ∧ v_iv (n_v vs 6) ≤ 8 := tv_rng t6
  obtain ⟨t7, hk⟩ := List.forall_mem_cons.mp hk
  have t7 : tv_ok ta (2, 0, 0, [152]) (n_v vs 7) := t7
  have r7 : ta (v_ad (n_v vs 7)) = some 152 := tv_rg t7
  obtain ⟨t8, hk⟩ := List.forall_mem_cons.mp hk
  have t8 : tv_ok ta (0, 0, 66297, []) (n_v vs 8) := t8
  have k8 : 0 ≤ v_iv (n_v vs 8) ∧ v_iv (n_v vs 8) ≤ 66297 := tv_rng t8
  obtain ⟨t9, hk⟩ := List.forall_mem_cons.mp hk
  have t9 : tv_ok ta (0, 531, 531, []) (n_v vs 9) := t9
  have k9 : 531 ≤ v_iv (n_v vs 9) ∧ v_iv (n_v vs 9) ≤ 531 := tv_rng t9
  obtain ⟨t10, hk⟩ := List.forall_mem_cons.mp hk
  have t10 : tv_ok ta (0, 531, 66828, []) (n_v vs 10) := t10
  have k10 : 531 ≤ v_iv (n_v vs 10) ∧ v_iv (n_v vs 10) ≤ 66828 := tv_rng t10
  obtain ⟨t11, hk⟩ := List.forall_mem_cons.mp hk
  have t11 : tv_ok ta (0, 537, 66835, []) (n_v vs 11) := t11
  have k11 : 537 ≤ v_iv (n_v vs 11) ∧ v_iv (n_v vs 11) ≤ 66835 := tv_rng t11
  obtain ⟨t12, hk⟩ := List.forall_mem_cons.mp hk
  have t12 : tv_ok ta (0, 5, 6, []) (n_v vs 12) := t12
  have k12 : 5 ≤ v_iv (n_v vs 12) ∧ v_iv (n_v vs 12) ≤ 6 := tv_rng t12
  have hds : ∀ q ∈ ([(12, 4, 0, 0), (11, 5, 531, 66828), (11, 6, -4294967296, 66827), (11, 2, -4294967296, 66836), (11, 4, -4294967296, 66831), (11, 10, 6, 7), (11, 8, 537, 538), (10, 8, 531, 531), (5, 6, -4294967296, -1), (4, 2, -4294967296, 7), (4, 5, -4294967296, -1), (5, 2, -4294967296, 8), (5, 4, -4294967296, 3)] : List of_T), n_iv vs q.2.1 + q.2.2.1 ≤ n_iv vs q.1 ∧ n_iv vs q.1 ≤ n_iv vs q.2.1 + q.2.2.2 := hds
  obtain ⟨d0, hds⟩ := List.forall_mem_cons.mp hds
  have d0 : v_iv (n_v vs 4) + 0 ≤ v_iv (n_v vs 12) ∧ v_iv (n_v vs 12) ≤ v_iv (n_v vs 4) + 0 := d0
  obtain ⟨d1, hds⟩ := List.forall_mem_cons.mp hds
  have d1 : v_iv (n_v vs 5) + 531 ≤ v_iv (n_v vs 11) ∧ v_iv (n_v vs 11) ≤ v_iv (n_v vs 5) + 66828 := d1
  obtain ⟨d2, hds⟩ := List.forall_mem_cons.mp hds
  have d2 : v_iv (n_v vs 6) + (-4294967296) ≤ v_iv (n_v vs 11) ∧ v_iv (n_v vs 11) ≤ v_iv (n_v vs 6) + 66827 := d2
  obtain ⟨d3, hds⟩ := List.forall_mem_cons.mp hds
  have d3 : v_iv (n_v vs 2) + (-4294967296) ≤ v_iv (n_v vs 11) ∧ v_iv (n_v vs 11) ≤ v_iv (n_v vs 2) + 66836 := d3
  obtain ⟨d4, hds⟩ := List.forall_mem_cons.mp hds
  have d4 : v_iv (n_v vs 4) + (-4294967296) ≤ v_iv (n_v vs 11) ∧ v_iv (n_v vs 11) ≤ v_iv (n_v vs 4) + 66831 := d4
  obtain ⟨d5, hds⟩ := List.forall_mem_cons.mp hds
  have d5 : v_iv (n_v vs 10) + 6 ≤ v_iv (n_v vs 11) ∧ v_iv (n_v vs 11) ≤ v_iv (n_v vs 10) + 7 := d5
  obtain ⟨d6, hds⟩ := List.forall_mem_cons.mp hds
  have d6 : v_iv (n_v vs 8) + 537 ≤ v_iv (n_v vs 11) ∧ v_iv (n_v vs 11) ≤ v_iv (n_v vs 8) + 538 := d6
  obtain ⟨d7, hds⟩ := List.forall_mem_cons.mp hds
  have d7 : v_iv (n_v vs 8) + 531 ≤ v_iv (n_v vs 10) ∧ v_iv (n_v vs 10) ≤ v_iv (n_v vs 8) + 531 := d7
  obtain ⟨d8, hds⟩ := List.forall_mem_cons.mp hds
  have d8 : v_iv (n_v vs 6) + (-4294967296) ≤ v_iv (n_v vs 5) ∧ v_iv (n_v vs 5) ≤ v_iv (n_v vs 6) + (-1) := d8
  obtain ⟨d9, hds⟩ := List.forall_mem_cons.mp hds
  have d9 : v_iv (n_v vs 2) + (-4294967296) ≤ v_iv (n_v vs 4) ∧ v_iv (n_v vs 4) ≤ v_iv (n_v vs 2) + 7 := d9
  obtain ⟨d10, hds⟩ := List.forall_mem_cons.mp hds
  have d10 : v_iv (n_v vs 5) + (-4294967296) ≤ v_iv (n_v vs 4) ∧ v_iv (n_v vs 4) ≤ v_iv (n_v vs 5) + (-1) := d10
  obtain ⟨d11, hds⟩ := List.forall_mem_cons.mp hds
  have d11 : v_iv (n_v vs 2) + (-4294967296) ≤ v_iv (n_v vs 5) ∧ v_iv (n_v vs 5) ≤ v_iv (n_v vs 2) + 8 := d11
  obtain ⟨d12, hds⟩ := List.forall_mem_cons.mp hds
  have d12 : v_iv (n_v vs 4) + (-4294967296) ≤ v_iv (n_v vs 5) ∧ v_iv (n_v vs 5) ≤ v_iv (n_v vs 4) + 3 := d12
  have hf : fc_ok [(7, [12, 4], [0]), (10, [12, 7, 11], []), (1, [11, 10, 5], []), (1, [10, 8, 9], []), (9, [8, 3], [5]), (9, [7, 3], [2]), (7, [5, 6], [2]), (20, [6, 3], [30, 0, 1, 0, 0, -1, 3, 2005002]), (20, [6, 3], [30, 0, -1, 0, 0, 1, 3, 2005002]), (20, [3, 2, 5, 4], [30, -902, 1, 1, 170, -1, 0, 0, -1766, 0, 0, 1766, 0, 0]), (24, [0, 3], [])] ta ws vs := hf
  obtain ⟨f0, hf⟩ := fc_un (show (7 : Nat) < 100 from by decide) hf
  have f0 : v_iv (n_v vs 12) = v_iv (n_v vs 4) := f0
  obtain ⟨f1, hf⟩ := fc_un (show (10 : Nat) < 100 from by decide) hf
  have f1 : v_iv (n_v vs 12) = w_el ws (v_ad (n_v vs 7)) (v_iv (n_v vs 11)).toNat := f1
  obtain ⟨f2, hf⟩ := fc_un (show (1 : Nat) < 100 from by decide) hf
  have f2 : v_iv (n_v vs 11) = v_iv (n_v vs 10) + v_iv (n_v vs 5) := f2
  obtain ⟨f3, hf⟩ := fc_un (show (1 : Nat) < 100 from by decide) hf
  have f3 : v_iv (n_v vs 10) = v_iv (n_v vs 8) + v_iv (n_v vs 9) := f3
  obtain ⟨f4, hf⟩ := fc_un (show (9 : Nat) < 100 from by decide) hf
  have f4 : n_v vs 8 = w_fd ws (v_ad (n_v vs 3)) 5 := f4
  obtain ⟨f5, hf⟩ := fc_un (show (9 : Nat) < 100 from by decide) hf
  have f5 : n_v vs 7 = w_fd ws (v_ad (n_v vs 3)) 2 := f5
  obtain ⟨f6, hf⟩ := fc_un (show (7 : Nat) < 100 from by decide) hf
  have f6 : v_iv (n_v vs 5) < v_iv (n_v vs 6) := f6
  obtain ⟨f7, hf⟩ := fc_un (show (20 : Nat) < 100 from by decide) hf
  have f7 : 1 * v_iv (n_v vs 6) + ((-1) * w_el ws (w_ar ws (n_v vs 3) 2) (w_fi ws (n_v vs 3) 5 + 2).toNat + 0) ≤ 0 := f7
  obtain ⟨f8, hf⟩ := fc_un (show (20 : Nat) < 100 from by decide) hf
  have f8 : (-1) * v_iv (n_v vs 6) + (1 * w_el ws (w_ar ws (n_v vs 3) 2) (w_fi ws (n_v vs 3) 5 + 2).toNat + 0) ≤ 0 := f8
  obtain ⟨f9, hf⟩ := fc_un (show (20 : Nat) < 100 from by decide) hf
  have f9 : 1 * w_fi ws (n_v vs 3) 170 + ((-1) * v_iv (n_v vs 2) + ((-1766) * v_iv (n_v vs 5) + (1766 * v_iv (n_v vs 4) + 0))) ≤ (-902) := f9
  obtain ⟨f10, hf⟩ := fc_un (show (24 : Nat) < 100 from by decide) hf
  have f10 : n_v vs 0 = n_v vs 3 := f10
  have q3 : n_v vs 3 = n_v vs 0 := f10.symm
  rw [q3] at f4
  rw [q3] at f5
  rw [q3] at f7
  rw [q3] at f8
  rw [q3] at f9
  have cr_0_2 : ta (w_ar ws (n_v vs 0) 2) = some 152 := tv_rg (th_fd hD hth r0 (g := GG_150) rfl (k := 2) (t := (2, 0, 0, [152])) rfl rfl)
  have ad_7 : v_ad (n_v vs 7) = w_ar ws (n_v vs 0) 2 := congrArg v_ad f5
  rw [ad_7] at f1
  have g4 : v_iv (n_v vs 8) = w_fi ws (n_v vs 0) 5 := congrArg v_iv f4
  have cg1_F5_2 : v_iv (n_v vs 11) = w_fi ws (n_v vs 0) 5 + 2 → w_el ws (w_ar ws (n_v vs 0) 2) (v_iv (n_v vs 11)).toNat = w_el ws (w_ar ws (n_v vs 0) 2) (w_fi ws (n_v vs 0) 5 + 2).toNat := fun h => by rw [h]
  have kz_0_170 : 0 ≤ w_fi ws (n_v vs 0) 170 ∧ w_fi ws (n_v vs 0) 170 ≤ 100000000 := tv_rng (th_fd hD hth r0 (g := GG_150) rfl (k := 170) (t := (0, 0, 100000000, [])) rfl rfl)
  have kv0 : 0 ≤ w_fi ws (n_v vs 0) 170 ∧ w_fi ws (n_v vs 0) 170 ≤ 100000000 := tv_rng (th_fd hD hth r0 (g := GG_150) rfl (k := 170) (t := (0, 0, 100000000, [])) rfl rfl)
  obtain ⟨x, ex, hx⟩ := iv_ex (ta := ta) (lo := 0) (hi := 99999994) (z := w_fi ws (n_v vs 0) 170) (by omega) (by omega) (by omega) (by omega)
  have ex2 : v_iv (Value.int x) = w_fi ws (n_v vs 0) 170 := ex
  have ex3 : 0 ≤ v_iv (Value.int x) ∧ v_iv (Value.int x) ≤ 99999994 := tv_rng hx
  have e_2 : n_v (vs ++ [Value.int x]) 2 = n_v vs 2 := n_v_old (by rw [hl]; decide)
  have e_3 : n_v (vs ++ [Value.int x]) 3 = n_v vs 3 := n_v_old (by rw [hl]; decide)
  have e_4 : n_v (vs ++ [Value.int x]) 4 = n_v vs 4 := n_v_old (by rw [hl]; decide)
  have e_5 : n_v (vs ++ [Value.int x]) 5 = n_v vs 5 := n_v_old (by rw [hl]; decide)
  have e_14 : n_v (vs ++ [Value.int x]) 14 = Value.int x := n_v_new hl
  have nf0 : fc_1 (20, [3, 14], [30, 0, 1, 1, 170, -1, 0, 0]) ws (vs ++ [Value.int x]) := by
    refine ⟨fun n hn => ?_, ?_⟩
    · have hn : n ∈ [3, 14] := hn
      rw [List.length_append, hl]
      simp only [List.mem_cons, List.not_mem_nil, or_false] at hn
      show n < 14 + 1; omega
    · show 1 * w_fi ws (n_v (vs ++ [Value.int x]) 3) 170 + ((-1) * v_iv (n_v (vs ++ [Value.int x]) 14) + 0) ≤ 0
      rw [e_3]
      rw [e_14]
      rw [q3]
      omega
  have nf1 : fc_1 (23, [14, 2, 5, 4], [-902, 1, -1, -1766, 1766]) ws (vs ++ [Value.int x]) := by
    refine ⟨fun n hn => ?_, ?_⟩
    · have hn : n ∈ [14, 2, 5, 4] := hn
      rw [List.length_append, hl]
      simp only [List.mem_cons, List.not_mem_nil, or_false] at hn
      show n < 14 + 1; omega
    · show 1 * v_iv (n_v (vs ++ [Value.int x]) 14) + ((-1) * v_iv (n_v (vs ++ [Value.int x]) 2) + ((-1766) * v_iv (n_v (vs ++ [Value.int x]) 5) + (1766 * v_iv (n_v (vs ++ [Value.int x]) 4) + 0))) ≤ (-902)
      rw [e_2]
      rw [e_4]
      rw [e_5]
      rw [e_14]
      omega
  exact ⟨(fun _ h => (by cases h)), [Value.int x], ag_one hx, List.forall_mem_cons.mpr ⟨⟨show (20 : Nat) < 100 from by decide, nf0⟩, List.forall_mem_cons.mpr ⟨⟨show (23 : Nat) < 100 from by decide, nf1⟩, (fun _ h => (by cases h))⟩⟩, (fun _ h => (by cases h))⟩
def o_Mo_writeGroup_at_l5_14 : or_T := (149, 24, [(0, (2, 0, 0, [150])), (2, (0, 0, 99995604, [])), (3, (2, 0, 0, [150])), (4, (0, 5, 6, [])), (5, (0, 6, 7, [])), (6, (0, 7, 8, [])), (7, (2, 0, 0, [152])), (8, (0, 0, 66297, [])), (12, (0, 5, 6, [])), (14, (0, 0, 99999994, []))], [(9, [8, 3], [5]), (9, [7, 3], [2]), (23, [14, 2, 5, 4], [-902, 1, -1, -1766, 1766]), (20, [6, 3], [30, 0, 1, 0, 0, -1, 3, 2005002]), (20, [6, 3], [30, 0, -1, 0, 0, 1, 3, 2005002]), (24, [0, 3], []), (20, [3, 14], [30, 6, 1, 1, 170, -1, 0, 0]), (102, [14], [237142198758023568227473377297792835283496928595231875152809132048206089502588928, 13170]), (23, [14, 2, 5, 4], [-902, 1, -1, -1766, 1766]), (7, [12, 4], [0]), (7, [5, 6], [2])], [], [(0, 0, 99999992, [])], [(20, [3, 24], [30, 0, 1, 1, 170, -1, 0, 0]), (23, [24, 2, 5, 4], [-896, 1, -1, -1766, 1766])], [], [(12, 4, 0, 0), (5, 6, -4294967296, -1), (4, 2, -4294967296, 7), (4, 5, -4294967296, -1), (5, 2, -4294967296, 8), (5, 4, -4294967296, 3)])
theorem oo_Mo_writeGroup_at_l5_14 {kA : Nat → ClassId} : or_ok kA GG o_Mo_writeGroup_at_l5_14 := by
  intro A ta ws vs hD hth hl hk hds hf
  have hl : vs.length = 24 := hl
  have hk : ∀ q ∈ ([(0, (2, 0, 0, [150])), (2, (0, 0, 99995604, [])), (3, (2, 0, 0, [150])), (4, (0, 5, 6, [])), (5, (0, 6, 7, [])), (6, (0, 7, 8, [])), (7, (2, 0, 0, [152])), (8, (0, 0, 66297, [])), (12, (0, 5, 6, [])), (14, (0, 0, 99999994, []))] : List (Nat × tv_T)), tv_ok ta q.2 (n_v vs q.1) := hk
  obtain ⟨t0, hk⟩ := List.forall_mem_cons.mp hk
  have t0 : tv_ok ta (2, 0, 0, [150]) (n_v vs 0) := t0
  have r0 : ta (v_ad (n_v vs 0)) = some 150 := tv_rg t0
  obtain ⟨t2, hk⟩ := List.forall_mem_cons.mp hk
  have t2 : tv_ok ta (0, 0, 99995604, []) (n_v vs 2) := t2
  have k2 : 0 ≤ v_iv (n_v vs 2) ∧ v_iv (n_v vs 2) ≤ 99995604 := tv_rng t2
  obtain ⟨t3, hk⟩ := List.forall_mem_cons.mp hk
  have t3 : tv_ok ta (2, 0, 0, [150]) (n_v vs 3) := t3
  have r3 : ta (v_ad (n_v vs 3)) = some 150 := tv_rg t3
  obtain ⟨t4, hk⟩ := List.forall_mem_cons.mp hk
  have t4 : tv_ok ta (0, 5, 6, []) (n_v vs 4) := t4
  have k4 : 5 ≤ v_iv (n_v vs 4) ∧ v_iv (n_v vs 4) ≤ 6 := tv_rng t4
  obtain ⟨t5, hk⟩ := List.forall_mem_cons.mp hk
  have t5 : tv_ok ta (0, 6, 7, []) (n_v vs 5) := t5
  have k5 : 6 ≤ v_iv (n_v vs 5) ∧ v_iv (n_v vs 5) ≤ 7 := tv_rng t5
  obtain ⟨t6, hk⟩ := List.forall_mem_cons.mp hk
  have t6 : tv_ok ta (0, 7, 8, []) (n_v vs 6) := t6
  have k6 : 7 ≤ v_iv (n_v vs 6) ∧ v_iv (n_v vs 6) ≤ 8 := tv_rng t6
  obtain ⟨t7, hk⟩ := List.forall_mem_cons.mp hk
  have t7 : tv_ok ta (2, 0, 0, [152]) (n_v vs 7) := t7
  have r7 : ta (v_ad (n_v vs 7)) = some 152 := tv_rg t7
  obtain ⟨t8, hk⟩ := List.forall_mem_cons.mp hk
  have t8 : tv_ok ta (0, 0, 66297, []) (n_v vs 8) := t8
  have k8 : 0 ≤ v_iv (n_v vs 8) ∧ v_iv (n_v vs 8) ≤ 66297 := tv_rng t8
  obtain ⟨t12, hk⟩ := List.forall_mem_cons.mp hk
  have t12 : tv_ok ta (0, 5, 6, []) (n_v vs 12) := t12
  have k12 : 5 ≤ v_iv (n_v vs 12) ∧ v_iv (n_v vs 12) ≤ 6 := tv_rng t12
  obtain ⟨t14, hk⟩ := List.forall_mem_cons.mp hk
  have t14 : tv_ok ta (0, 0, 99999994, []) (n_v vs 14) := t14
  have k14 : 0 ≤ v_iv (n_v vs 14) ∧ v_iv (n_v vs 14) ≤ 99999994 := tv_rng t14
  have hds : ∀ q ∈ ([(12, 4, 0, 0), (5, 6, -4294967296, -1), (4, 2, -4294967296, 7), (4, 5, -4294967296, -1), (5, 2, -4294967296, 8), (5, 4, -4294967296, 3)] : List of_T), n_iv vs q.2.1 + q.2.2.1 ≤ n_iv vs q.1 ∧ n_iv vs q.1 ≤ n_iv vs q.2.1 + q.2.2.2 := hds
  obtain ⟨d0, hds⟩ := List.forall_mem_cons.mp hds
  have d0 : v_iv (n_v vs 4) + 0 ≤ v_iv (n_v vs 12) ∧ v_iv (n_v vs 12) ≤ v_iv (n_v vs 4) + 0 := d0
  obtain ⟨d1, hds⟩ := List.forall_mem_cons.mp hds
  have d1 : v_iv (n_v vs 6) + (-4294967296) ≤ v_iv (n_v vs 5) ∧ v_iv (n_v vs 5) ≤ v_iv (n_v vs 6) + (-1) := d1
  obtain ⟨d2, hds⟩ := List.forall_mem_cons.mp hds
  have d2 : v_iv (n_v vs 2) + (-4294967296) ≤ v_iv (n_v vs 4) ∧ v_iv (n_v vs 4) ≤ v_iv (n_v vs 2) + 7 := d2
  obtain ⟨d3, hds⟩ := List.forall_mem_cons.mp hds
  have d3 : v_iv (n_v vs 5) + (-4294967296) ≤ v_iv (n_v vs 4) ∧ v_iv (n_v vs 4) ≤ v_iv (n_v vs 5) + (-1) := d3
  obtain ⟨d4, hds⟩ := List.forall_mem_cons.mp hds
  have d4 : v_iv (n_v vs 2) + (-4294967296) ≤ v_iv (n_v vs 5) ∧ v_iv (n_v vs 5) ≤ v_iv (n_v vs 2) + 8 := d4
  obtain ⟨d5, hds⟩ := List.forall_mem_cons.mp hds
  have d5 : v_iv (n_v vs 4) + (-4294967296) ≤ v_iv (n_v vs 5) ∧ v_iv (n_v vs 5) ≤ v_iv (n_v vs 4) + 3 := d5
  have hf : fc_ok [(9, [8, 3], [5]), (9, [7, 3], [2]), (23, [14, 2, 5, 4], [-902, 1, -1, -1766, 1766]), (20, [6, 3], [30, 0, 1, 0, 0, -1, 3, 2005002]), (20, [6, 3], [30, 0, -1, 0, 0, 1, 3, 2005002]), (24, [0, 3], []), (20, [3, 14], [30, 6, 1, 1, 170, -1, 0, 0]), (102, [14], [237142198758023568227473377297792835283496928595231875152809132048206089502588928, 13170]), (23, [14, 2, 5, 4], [-902, 1, -1, -1766, 1766]), (7, [12, 4], [0]), (7, [5, 6], [2])] ta ws vs := hf
  obtain ⟨f0, hf⟩ := fc_un (show (9 : Nat) < 100 from by decide) hf
  have f0 : n_v vs 8 = w_fd ws (v_ad (n_v vs 3)) 5 := f0
  obtain ⟨f1, hf⟩ := fc_un (show (9 : Nat) < 100 from by decide) hf
  have f1 : n_v vs 7 = w_fd ws (v_ad (n_v vs 3)) 2 := f1
  obtain ⟨f2, hf⟩ := fc_un (show (23 : Nat) < 100 from by decide) hf
  have f2 : 1 * v_iv (n_v vs 14) + ((-1) * v_iv (n_v vs 2) + ((-1766) * v_iv (n_v vs 5) + (1766 * v_iv (n_v vs 4) + 0))) ≤ (-902) := f2
  obtain ⟨f3, hf⟩ := fc_un (show (20 : Nat) < 100 from by decide) hf
  have f3 : 1 * v_iv (n_v vs 6) + ((-1) * w_el ws (w_ar ws (n_v vs 3) 2) (w_fi ws (n_v vs 3) 5 + 2).toNat + 0) ≤ 0 := f3
  obtain ⟨f4, hf⟩ := fc_un (show (20 : Nat) < 100 from by decide) hf
  have f4 : (-1) * v_iv (n_v vs 6) + (1 * w_el ws (w_ar ws (n_v vs 3) 2) (w_fi ws (n_v vs 3) 5 + 2).toNat + 0) ≤ 0 := f4
  obtain ⟨f5, hf⟩ := fc_un (show (24 : Nat) < 100 from by decide) hf
  have f5 : n_v vs 0 = n_v vs 3 := f5
  obtain ⟨f6, hf⟩ := fc_un (show (20 : Nat) < 100 from by decide) hf
  have f6 : 1 * w_fi ws (n_v vs 3) 170 + ((-1) * v_iv (n_v vs 14) + 0) ≤ 6 := f6
  obtain ⟨ta1, w1, le1, ⟨_, s1⟩, hf⟩ := fc_us (show ¬ (102 : Nat) < 100 from by decide) hf
  obtain ⟨f8, hf⟩ := fc_un (show (23 : Nat) < 100 from by decide) hf
  have f8 : 1 * v_iv (n_v vs 14) + ((-1) * v_iv (n_v vs 2) + ((-1766) * v_iv (n_v vs 5) + (1766 * v_iv (n_v vs 4) + 0))) ≤ (-902) := f8
  obtain ⟨f9, hf⟩ := fc_un (show (7 : Nat) < 100 from by decide) hf
  have f9 : v_iv (n_v vs 12) = v_iv (n_v vs 4) := f9
  obtain ⟨f10, hf⟩ := fc_un (show (7 : Nat) < 100 from by decide) hf
  have f10 : v_iv (n_v vs 5) < v_iv (n_v vs 6) := f10
  have q3 : n_v vs 3 = n_v vs 0 := f5.symm
  rw [q3] at f0
  rw [q3] at f1
  rw [q3] at f3
  rw [q3] at f4
  rw [q3] at f6
  have cr_0_2 : ta (w_ar ws (n_v vs 0) 2) = some 152 := tv_rg (th_fd hD hth r0 (g := GG_150) rfl (k := 2) (t := (2, 0, 0, [152])) rfl rfl)
  have ad_7 : v_ad (n_v vs 7) = w_ar ws (n_v vs 0) 2 := congrArg v_ad f1
  have g0 : v_iv (n_v vs 8) = w_fi ws (n_v vs 0) 5 := congrArg v_iv f0
  have kz_0_170 : 0 ≤ w_fi ws (n_v vs 0) 170 ∧ w_fi ws (n_v vs 0) 170 ≤ 100000000 := tv_rng (th_fd hD hth r0 (g := GG_150) rfl (k := 170) (t := (0, 0, 100000000, [])) rfl rfl)
  have kv0 : 0 ≤ w_fi ws (n_v vs 0) 170 ∧ w_fi ws (n_v vs 0) 170 ≤ 100000000 := tv_rng (th_fd hD hth r0 (g := GG_150) rfl (k := 170) (t := (0, 0, 100000000, [])) rfl rfl)
  obtain ⟨x, ex, hx⟩ := iv_ex (ta := ta) (lo := 0) (hi := 99999992) (z := w_fi ws (n_v vs 0) 170) (by omega) (by omega) (by omega) (by omega)
  have ex2 : v_iv (Value.int x) = w_fi ws (n_v vs 0) 170 := ex
  have ex3 : 0 ≤ v_iv (Value.int x) ∧ v_iv (Value.int x) ≤ 99999992 := tv_rng hx
  have e_2 : n_v (vs ++ [Value.int x]) 2 = n_v vs 2 := n_v_old (by rw [hl]; decide)
  have e_3 : n_v (vs ++ [Value.int x]) 3 = n_v vs 3 := n_v_old (by rw [hl]; decide)
  have e_4 : n_v (vs ++ [Value.int x]) 4 = n_v vs 4 := n_v_old (by rw [hl]; decide)
  have e_5 : n_v (vs ++ [Value.int x]) 5 = n_v vs 5 := n_v_old (by rw [hl]; decide)
  have e_24 : n_v (vs ++ [Value.int x]) 24 = Value.int x := n_v_new hl
  have nf0 : fc_1 (20, [3, 24], [30, 0, 1, 1, 170, -1, 0, 0]) ws (vs ++ [Value.int x]) := by
    refine ⟨fun n hn => ?_, ?_⟩
    · have hn : n ∈ [3, 24] := hn
      rw [List.length_append, hl]
      simp only [List.mem_cons, List.not_mem_nil, or_false] at hn
      show n < 24 + 1; omega
    · show 1 * w_fi ws (n_v (vs ++ [Value.int x]) 3) 170 + ((-1) * v_iv (n_v (vs ++ [Value.int x]) 24) + 0) ≤ 0
      rw [e_3]
      rw [e_24]
      rw [q3]
      omega
  have nf1 : fc_1 (23, [24, 2, 5, 4], [-896, 1, -1, -1766, 1766]) ws (vs ++ [Value.int x]) := by
    refine ⟨fun n hn => ?_, ?_⟩
    · have hn : n ∈ [24, 2, 5, 4] := hn
      rw [List.length_append, hl]
      simp only [List.mem_cons, List.not_mem_nil, or_false] at hn
      show n < 24 + 1; omega
    · show 1 * v_iv (n_v (vs ++ [Value.int x]) 24) + ((-1) * v_iv (n_v (vs ++ [Value.int x]) 2) + ((-1766) * v_iv (n_v (vs ++ [Value.int x]) 5) + (1766 * v_iv (n_v (vs ++ [Value.int x]) 4) + 0))) ≤ (-896)
      rw [e_2]
      rw [e_4]
      rw [e_5]
      rw [e_24]
      omega
  exact ⟨(fun _ h => (by cases h)), [Value.int x], ag_one hx, List.forall_mem_cons.mpr ⟨⟨show (20 : Nat) < 100 from by decide, nf0⟩, List.forall_mem_cons.mpr ⟨⟨show (23 : Nat) < 100 from by decide, nf1⟩, (fun _ h => (by cases h))⟩⟩, (fun _ h => (by cases h))⟩
def o_Mo_writeGroup_at_l5_15 : or_T := (156, 26, [(0, (2, 0, 0, [150])), (2, (0, 0, 99995604, [])), (3, (2, 0, 0, [150])), (4, (0, 5, 6, [])), (5, (0, 6, 7, [])), (6, (0, 7, 8, [])), (12, (0, 5, 6, [])), (14, (0, 0, 99999994, [])), (24, (0, 0, 99999992, []))], [(23, [24, 2, 5, 4], [-896, 1, -1, -1766, 1766]), (23, [14, 2, 5, 4], [-902, 1, -1, -1766, 1766]), (20, [6, 3], [30, 0, 1, 0, 0, -1, 3, 2005002]), (20, [6, 3], [30, 0, -1, 0, 0, 1, 3, 2005002]), (24, [0, 3], []), (20, [3, 24], [30, 8, 1, 1, 170, -1, 0, 0]), (102, [24], [237142198758023568227473377297792835283496928595231875152809132048206089502588928, 13170]), (23, [24, 2, 5, 4], [-896, 1, -1, -1766, 1766]), (23, [14, 2, 5, 4], [-902, 1, -1, -1766, 1766]), (102, [14], [237142198758023568227473377297792835283496928595231875152809132048206089502588928, 13170]), (23, [14, 2, 5, 4], [-902, 1, -1, -1766, 1766]), (7, [12, 4], [0]), (7, [5, 6], [2])], [], [(0, 0, 99999997, [])], [(20, [3, 26], [30, 0, 1, 1, 170, -1, 0, 0]), (23, [26, 2, 5, 4], [-888, 1, -1, -1766, 1766])], [], [(12, 4, 0, 0), (5, 6, -4294967296, -1), (4, 2, -4294967296, 7), (4, 5, -4294967296, -1), (5, 2, -4294967296, 8), (5, 4, -4294967296, 3)])
theorem oo_Mo_writeGroup_at_l5_15 {kA : Nat → ClassId} : or_ok kA GG o_Mo_writeGroup_at_l5_15 := by
  intro A ta ws vs hD hth hl hk hds hf
  have hl : vs.length = 26 := hl
  have hk : ∀ q ∈ ([(0, (2, 0, 0, [150])), (2, (0, 0, 99995604, [])), (3, (2, 0, 0, [150])), (4, (0, 5, 6, [])), (5, (0, 6, 7, [])), (6, (0, 7, 8, [])), (12, (0, 5, 6, [])), (14, (0, 0, 99999994, [])), (24, (0, 0, 99999992, []))] : List (Nat × tv_T)), tv_ok ta q.2 (n_v vs q.1) := hk
  obtain ⟨t0, hk⟩ := List.forall_mem_cons.mp hk
  have t0 : tv_ok ta (2, 0, 0, [150]) (n_v vs 0) := t0
  have r0 : ta (v_ad (n_v vs 0)) = some 150 := tv_rg t0
  obtain ⟨t2, hk⟩ := List.forall_mem_cons.mp hk
  have t2 : tv_ok ta (0, 0, 99995604, []) (n_v vs 2) := t2
  have k2 : 0 ≤ v_iv (n_v vs 2) ∧ v_iv (n_v vs 2) ≤ 99995604 := tv_rng t2
  obtain ⟨t3, hk⟩ := List.forall_mem_cons.mp hk
  have t3 : tv_ok ta (2, 0, 0, [150]) (n_v vs 3) := t3
  have r3 : ta (v_ad (n_v vs 3)) = some 150 := tv_rg t3
  obtain ⟨t4, hk⟩ := List.forall_mem_cons.mp hk
  have t4 : tv_ok ta (0, 5, 6, []) (n_v vs 4) := t4
  have k4 : 5 ≤ v_iv (n_v vs 4) ∧ v_iv (n_v vs 4) ≤ 6 := tv_rng t4
  obtain ⟨t5, hk⟩ := List.forall_mem_cons.mp hk
  have t5 : tv_ok ta (0, 6, 7, []) (n_v vs 5) := t5
  have k5 : 6 ≤ v_iv (n_v vs 5) ∧ v_iv (n_v vs 5) ≤ 7 := tv_rng t5
  obtain ⟨t6, hk⟩ := List.forall_mem_cons.mp hk
  have t6 : tv_ok ta (0, 7, 8, []) (n_v vs 6) := t6
  have k6 : 7 ≤ v_iv (n_v vs 6) ∧ v_iv (n_v vs 6) ≤ 8 := tv_rng t6
  obtain ⟨t12, hk⟩ := List.forall_mem_cons.mp hk
  have t12 : tv_ok ta (0, 5, 6, []) (n_v vs 12) := t12
  have k12 : 5 ≤ v_iv (n_v vs 12) ∧ v_iv (n_v vs 12) ≤ 6 := tv_rng t12
  obtain ⟨t14, hk⟩ := List.forall_mem_cons.mp hk
  have t14 : tv_ok ta (0, 0, 99999994, []) (n_v vs 14) := t14
  have k14 : 0 ≤ v_iv (n_v vs 14) ∧ v_iv (n_v vs 14) ≤ 99999994 := tv_rng t14
  obtain ⟨t24, hk⟩ := List.forall_mem_cons.mp hk
  have t24 : tv_ok ta (0, 0, 99999992, []) (n_v vs 24) := t24
  have k24 : 0 ≤ v_iv (n_v vs 24) ∧ v_iv (n_v vs 24) ≤ 99999992 := tv_rng t24
  have hds : ∀ q ∈ ([(12, 4, 0, 0), (5, 6, -4294967296, -1), (4, 2, -4294967296, 7), (4, 5, -4294967296, -1), (5, 2, -4294967296, 8), (5, 4, -4294967296, 3)] : List of_T), n_iv vs q.2.1 + q.2.2.1 ≤ n_iv vs q.1 ∧ n_iv vs q.1 ≤ n_iv vs q.2.1 + q.2.2.2 := hds
  obtain ⟨d0, hds⟩ := List.forall_mem_cons.mp hds
  have d0 : v_iv (n_v vs 4) + 0 ≤ v_iv (n_v vs 12) ∧ v_iv (n_v vs 12) ≤ v_iv (n_v vs 4) + 0 := d0
  obtain ⟨d1, hds⟩ := List.forall_mem_cons.mp hds
  have d1 : v_iv (n_v vs 6) + (-4294967296) ≤ v_iv (n_v vs 5) ∧ v_iv (n_v vs 5) ≤ v_iv (n_v vs 6) + (-1) := d1
  obtain ⟨d2, hds⟩ := List.forall_mem_cons.mp hds
  have d2 : v_iv (n_v vs 2) + (-4294967296) ≤ v_iv (n_v vs 4) ∧ v_iv (n_v vs 4) ≤ v_iv (n_v vs 2) + 7 := d2
  obtain ⟨d3, hds⟩ := List.forall_mem_cons.mp hds
  have d3 : v_iv (n_v vs 5) + (-4294967296) ≤ v_iv (n_v vs 4) ∧ v_iv (n_v vs 4) ≤ v_iv (n_v vs 5) + (-1) := d3
  obtain ⟨d4, hds⟩ := List.forall_mem_cons.mp hds
  have d4 : v_iv (n_v vs 2) + (-4294967296) ≤ v_iv (n_v vs 5) ∧ v_iv (n_v vs 5) ≤ v_iv (n_v vs 2) + 8 := d4
  obtain ⟨d5, hds⟩ := List.forall_mem_cons.mp hds
  have d5 : v_iv (n_v vs 4) + (-4294967296) ≤ v_iv (n_v vs 5) ∧ v_iv (n_v vs 5) ≤ v_iv (n_v vs 4) + 3 := d5
  have hf : fc_ok [(23, [24, 2, 5, 4], [-896, 1, -1, -1766, 1766]), (23, [14, 2, 5, 4], [-902, 1, -1, -1766, 1766]), (20, [6, 3], [30, 0, 1, 0, 0, -1, 3, 2005002]), (20, [6, 3], [30, 0, -1, 0, 0, 1, 3, 2005002]), (24, [0, 3], []), (20, [3, 24], [30, 8, 1, 1, 170, -1, 0, 0]), (102, [24], [237142198758023568227473377297792835283496928595231875152809132048206089502588928, 13170]), (23, [24, 2, 5, 4], [-896, 1, -1, -1766, 1766]), (23, [14, 2, 5, 4], [-902, 1, -1, -1766, 1766]), (102, [14], [237142198758023568227473377297792835283496928595231875152809132048206089502588928, 13170]), (23, [14, 2, 5, 4], [-902, 1, -1, -1766, 1766]), (7, [12, 4], [0]), (7, [5, 6], [2])] ta ws vs := hf
  obtain ⟨f0, hf⟩ := fc_un (show (23 : Nat) < 100 from by decide) hf
  have f0 : 1 * v_iv (n_v vs 24) + ((-1) * v_iv (n_v vs 2) + ((-1766) * v_iv (n_v vs 5) + (1766 * v_iv (n_v vs 4) + 0))) ≤ (-896) := f0
  obtain ⟨f1, hf⟩ := fc_un (show (23 : Nat) < 100 from by decide) hf
  have f1 : 1 * v_iv (n_v vs 14) + ((-1) * v_iv (n_v vs 2) + ((-1766) * v_iv (n_v vs 5) + (1766 * v_iv (n_v vs 4) + 0))) ≤ (-902) := f1
  obtain ⟨f2, hf⟩ := fc_un (show (20 : Nat) < 100 from by decide) hf
  have f2 : 1 * v_iv (n_v vs 6) + ((-1) * w_el ws (w_ar ws (n_v vs 3) 2) (w_fi ws (n_v vs 3) 5 + 2).toNat + 0) ≤ 0 := f2
  obtain ⟨f3, hf⟩ := fc_un (show (20 : Nat) < 100 from by decide) hf
  have f3 : (-1) * v_iv (n_v vs 6) + (1 * w_el ws (w_ar ws (n_v vs 3) 2) (w_fi ws (n_v vs 3) 5 + 2).toNat + 0) ≤ 0 := f3
  obtain ⟨f4, hf⟩ := fc_un (show (24 : Nat) < 100 from by decide) hf
  have f4 : n_v vs 0 = n_v vs 3 := f4
  obtain ⟨f5, hf⟩ := fc_un (show (20 : Nat) < 100 from by decide) hf
  have f5 : 1 * w_fi ws (n_v vs 3) 170 + ((-1) * v_iv (n_v vs 24) + 0) ≤ 8 := f5
  obtain ⟨ta1, w1, le1, ⟨_, s1⟩, hf⟩ := fc_us (show ¬ (102 : Nat) < 100 from by decide) hf
  obtain ⟨f7, hf⟩ := fc_un (show (23 : Nat) < 100 from by decide) hf
  have f7 : 1 * v_iv (n_v vs 24) + ((-1) * v_iv (n_v vs 2) + ((-1766) * v_iv (n_v vs 5) + (1766 * v_iv (n_v vs 4) + 0))) ≤ (-896) := f7
  obtain ⟨f8, hf⟩ := fc_un (show (23 : Nat) < 100 from by decide) hf
  have f8 : 1 * v_iv (n_v vs 14) + ((-1) * v_iv (n_v vs 2) + ((-1766) * v_iv (n_v vs 5) + (1766 * v_iv (n_v vs 4) + 0))) ≤ (-902) := f8
  obtain ⟨ta2, w2, le2, ⟨_, s2⟩, hf⟩ := fc_us (show ¬ (102 : Nat) < 100 from by decide) hf
  obtain ⟨f10, hf⟩ := fc_un (show (23 : Nat) < 100 from by decide) hf
  have f10 : 1 * v_iv (n_v vs 14) + ((-1) * v_iv (n_v vs 2) + ((-1766) * v_iv (n_v vs 5) + (1766 * v_iv (n_v vs 4) + 0))) ≤ (-902) := f10
  obtain ⟨f11, hf⟩ := fc_un (show (7 : Nat) < 100 from by decide) hf
  have f11 : v_iv (n_v vs 12) = v_iv (n_v vs 4) := f11
  obtain ⟨f12, hf⟩ := fc_un (show (7 : Nat) < 100 from by decide) hf
  have f12 : v_iv (n_v vs 5) < v_iv (n_v vs 6) := f12
  have q3 : n_v vs 3 = n_v vs 0 := f4.symm
  rw [q3] at f2
  rw [q3] at f3
  rw [q3] at f5
  have cr_0_2 : ta (w_ar ws (n_v vs 0) 2) = some 152 := tv_rg (th_fd hD hth r0 (g := GG_150) rfl (k := 2) (t := (2, 0, 0, [152])) rfl rfl)
  have kz_0_170 : 0 ≤ w_fi ws (n_v vs 0) 170 ∧ w_fi ws (n_v vs 0) 170 ≤ 100000000 := tv_rng (th_fd hD hth r0 (g := GG_150) rfl (k := 170) (t := (0, 0, 100000000, [])) rfl rfl)
  have kv0 : 0 ≤ w_fi ws (n_v vs 0) 170 ∧ w_fi ws (n_v vs 0) 170 ≤ 100000000 := tv_rng (th_fd hD hth r0 (g := GG_150) rfl (k := 170) (t := (0, 0, 100000000, [])) rfl rfl)
  obtain ⟨x, ex, hx⟩ := iv_ex (ta := ta) (lo := 0) (hi := 99999997) (z := w_fi ws (n_v vs 0) 170) (by omega) (by omega) (by omega) (by omega)
  have ex2 : v_iv (Value.int x) = w_fi ws (n_v vs 0) 170 := ex
  have ex3 : 0 ≤ v_iv (Value.int x) ∧ v_iv (Value.int x) ≤ 99999997 := tv_rng hx
  have e_2 : n_v (vs ++ [Value.int x]) 2 = n_v vs 2 := n_v_old (by rw [hl]; decide)
  have e_3 : n_v (vs ++ [Value.int x]) 3 = n_v vs 3 := n_v_old (by rw [hl]; decide)
  have e_4 : n_v (vs ++ [Value.int x]) 4 = n_v vs 4 := n_v_old (by rw [hl]; decide)
  have e_5 : n_v (vs ++ [Value.int x]) 5 = n_v vs 5 := n_v_old (by rw [hl]; decide)
  have e_26 : n_v (vs ++ [Value.int x]) 26 = Value.int x := n_v_new hl
  have nf0 : fc_1 (20, [3, 26], [30, 0, 1, 1, 170, -1, 0, 0]) ws (vs ++ [Value.int x]) := by
    refine ⟨fun n hn => ?_, ?_⟩
    · have hn : n ∈ [3, 26] := hn
      rw [List.length_append, hl]
      simp only [List.mem_cons, List.not_mem_nil, or_false] at hn
      show n < 26 + 1; omega
    · show 1 * w_fi ws (n_v (vs ++ [Value.int x]) 3) 170 + ((-1) * v_iv (n_v (vs ++ [Value.int x]) 26) + 0) ≤ 0
      rw [e_3]
      rw [e_26]
      rw [q3]
      omega
  have nf1 : fc_1 (23, [26, 2, 5, 4], [-888, 1, -1, -1766, 1766]) ws (vs ++ [Value.int x]) := by
    refine ⟨fun n hn => ?_, ?_⟩
    · have hn : n ∈ [26, 2, 5, 4] := hn
      rw [List.length_append, hl]
      simp only [List.mem_cons, List.not_mem_nil, or_false] at hn
      show n < 26 + 1; omega
    · show 1 * v_iv (n_v (vs ++ [Value.int x]) 26) + ((-1) * v_iv (n_v (vs ++ [Value.int x]) 2) + ((-1766) * v_iv (n_v (vs ++ [Value.int x]) 5) + (1766 * v_iv (n_v (vs ++ [Value.int x]) 4) + 0))) ≤ (-888)
      rw [e_2]
      rw [e_4]
      rw [e_5]
      rw [e_26]
      omega
  exact ⟨(fun _ h => (by cases h)), [Value.int x], ag_one hx, List.forall_mem_cons.mpr ⟨⟨show (20 : Nat) < 100 from by decide, nf0⟩, List.forall_mem_cons.mpr ⟨⟨show (23 : Nat) < 100 from by decide, nf1⟩, (fun _ h => (by cases h))⟩⟩, (fun _ h => (by cases h))⟩
def o_Mo_writeGroup_at_l5_16 : or_T := (161, 27, [(0, (2, 0, 0, [150])), (2, (0, 0, 99995604, [])), (3, (2, 0, 0, [150])), (4, (0, 5, 6, [])), (5, (0, 6, 7, [])), (6, (0, 7, 8, [])), (12, (0, 5, 6, [])), (14, (0, 0, 99999994, [])), (24, (0, 0, 99999992, [])), (26, (0, 0, 99999997, []))], [(23, [26, 2, 5, 4], [-888, 1, -1, -1766, 1766]), (23, [24, 2, 5, 4], [-896, 1, -1, -1766, 1766]), (23, [14, 2, 5, 4], [-902, 1, -1, -1766, 1766]), (20, [6, 3], [30, 0, 1, 0, 0, -1, 3, 2005002]), (20, [6, 3], [30, 0, -1, 0, 0, 1, 3, 2005002]), (24, [0, 3], []), (20, [3, 26], [30, 3, 1, 1, 170, -1, 0, 0]), (102, [26], [237142198758023568227473377297792835283496928595231875152809132048206089502588928, 13170]), (23, [26, 2, 5, 4], [-888, 1, -1, -1766, 1766]), (23, [24, 2, 5, 4], [-896, 1, -1, -1766, 1766]), (23, [14, 2, 5, 4], [-902, 1, -1, -1766, 1766]), (102, [24], [237142198758023568227473377297792835283496928595231875152809132048206089502588928, 13170]), (23, [24, 2, 5, 4], [-896, 1, -1, -1766, 1766]), (23, [14, 2, 5, 4], [-902, 1, -1, -1766, 1766]), (102, [14], [237142198758023568227473377297792835283496928595231875152809132048206089502588928, 13170]), (23, [14, 2, 5, 4], [-902, 1, -1, -1766, 1766]), (7, [12, 4], [0]), (7, [5, 6], [2])], [], [(0, 0, 99998253, [])], [(20, [3, 27], [30, 0, 1, 1, 170, -1, 0, 0]), (23, [27, 2, 5, 4], [-885, 1, -1, -1766, 1766])], [], [(12, 4, 0, 0), (5, 6, -4294967296, -1), (4, 2, -4294967296, 7), (4, 5, -4294967296, -1), (5, 2, -4294967296, 8), (5, 4, -4294967296, 3)])
theorem oo_Mo_writeGroup_at_l5_16 {kA : Nat → ClassId} : or_ok kA GG o_Mo_writeGroup_at_l5_16 := by
  intro A ta ws vs hD hth hl hk hds hf
  have hl : vs.length = 27 := hl
  have hk : ∀ q ∈ ([(0, (2, 0, 0, [150])), (2, (0, 0, 99995604, [])), (3, (2, 0, 0, [150])), (4, (0, 5, 6, [])), (5, (0, 6, 7, [])), (6, (0, 7, 8, [])), (12, (0, 5, 6, [])), (14, (0, 0, 99999994, [])), (24, (0, 0, 99999992, [])), (26, (0, 0, 99999997, []))] : List (Nat × tv_T)), tv_ok ta q.2 (n_v vs q.1) := hk
  obtain ⟨t0, hk⟩ := List.forall_mem_cons.mp hk
  have t0 : tv_ok ta (2, 0, 0, [150]) (n_v vs 0) := t0
  have r0 : ta (v_ad (n_v vs 0)) = some 150 := tv_rg t0
  obtain ⟨t2, hk⟩ := List.forall_mem_cons.mp hk
  have t2 : tv_ok ta (0, 0, 99995604, []) (n_v vs 2) := t2
  have k2 : 0 ≤ v_iv (n_v vs 2) ∧ v_iv (n_v vs 2) ≤ 99995604 := tv_rng t2
  obtain ⟨t3, hk⟩ := List.forall_mem_cons.mp hk
  have t3 : tv_ok ta (2, 0, 0, [150]) (n_v vs 3) := t3
  have r3 : ta (v_ad (n_v vs 3)) = some 150 := tv_rg t3
  obtain ⟨t4, hk⟩ := List.forall_mem_cons.mp hk
  have t4 : tv_ok ta (0, 5, 6, []) (n_v vs 4) := t4
  have k4 : 5 ≤ v_iv (n_v vs 4) ∧ v_iv (n_v vs 4) ≤ 6 := tv_rng t4
  obtain ⟨t5, hk⟩ := List.forall_mem_cons.mp hk
  have t5 : tv_ok ta (0, 6, 7, []) (n_v vs 5) := t5
  have k5 : 6 ≤ v_iv (n_v vs 5) ∧ v_iv (n_v vs 5) ≤ 7 := tv_rng t5
  obtain ⟨t6, hk⟩ := List.forall_mem_cons.mp hk
  have t6 : tv_ok ta (0, 7, 8, []) (n_v vs 6) := t6
  have k6 : 7 ≤ v_iv (n_v vs 6) ∧ v_iv (n_v vs 6) ≤ 8 := tv_rng t6
  obtain ⟨t12, hk⟩ := List.forall_mem_cons.mp hk
  have t12 : tv_ok ta (0, 5, 6, []) (n_v vs 12) := t12
  have k12 : 5 ≤ v_iv (n_v vs 12) ∧ v_iv (n_v vs 12) ≤ 6 := tv_rng t12
  obtain ⟨t14, hk⟩ := List.forall_mem_cons.mp hk
  have t14 : tv_ok ta (0, 0, 99999994, []) (n_v vs 14) := t14
  have k14 : 0 ≤ v_iv (n_v vs 14) ∧ v_iv (n_v vs 14) ≤ 99999994 := tv_rng t14
  obtain ⟨t24, hk⟩ := List.forall_mem_cons.mp hk
  have t24 : tv_ok ta (0, 0, 99999992, []) (n_v vs 24) := t24
  have k24 : 0 ≤ v_iv (n_v vs 24) ∧ v_iv (n_v vs 24) ≤ 99999992 := tv_rng t24
  obtain ⟨t26, hk⟩ := List.forall_mem_cons.mp hk
  have t26 : tv_ok ta (0, 0, 99999997, []) (n_v vs 26) := t26
  have k26 : 0 ≤ v_iv (n_v vs 26) ∧ v_iv (n_v vs 26) ≤ 99999997 := tv_rng t26
  have hds : ∀ q ∈ ([(12, 4, 0, 0), (5, 6, -4294967296, -1), (4, 2, -4294967296, 7), (4, 5, -4294967296, -1), (5, 2, -4294967296, 8), (5, 4, -4294967296, 3)] : List of_T), n_iv vs q.2.1 + q.2.2.1 ≤ n_iv vs q.1 ∧ n_iv vs q.1 ≤ n_iv vs q.2.1 + q.2.2.2 := hds
  obtain ⟨d0, hds⟩ := List.forall_mem_cons.mp hds
  have d0 : v_iv (n_v vs 4) + 0 ≤ v_iv (n_v vs 12) ∧ v_iv (n_v vs 12) ≤ v_iv (n_v vs 4) + 0 := d0
  obtain ⟨d1, hds⟩ := List.forall_mem_cons.mp hds
  have d1 : v_iv (n_v vs 6) + (-4294967296) ≤ v_iv (n_v vs 5) ∧ v_iv (n_v vs 5) ≤ v_iv (n_v vs 6) + (-1) := d1
  obtain ⟨d2, hds⟩ := List.forall_mem_cons.mp hds
  have d2 : v_iv (n_v vs 2) + (-4294967296) ≤ v_iv (n_v vs 4) ∧ v_iv (n_v vs 4) ≤ v_iv (n_v vs 2) + 7 := d2
  obtain ⟨d3, hds⟩ := List.forall_mem_cons.mp hds
  have d3 : v_iv (n_v vs 5) + (-4294967296) ≤ v_iv (n_v vs 4) ∧ v_iv (n_v vs 4) ≤ v_iv (n_v vs 5) + (-1) := d3
  obtain ⟨d4, hds⟩ := List.forall_mem_cons.mp hds
  have d4 : v_iv (n_v vs 2) + (-4294967296) ≤ v_iv (n_v vs 5) ∧ v_iv (n_v vs 5) ≤ v_iv (n_v vs 2) + 8 := d4
  obtain ⟨d5, hds⟩ := List.forall_mem_cons.mp hds
  have d5 : v_iv (n_v vs 4) + (-4294967296) ≤ v_iv (n_v vs 5) ∧ v_iv (n_v vs 5) ≤ v_iv (n_v vs 4) + 3 := d5
  have hf : fc_ok [(23, [26, 2, 5, 4], [-888, 1, -1, -1766, 1766]), (23, [24, 2, 5, 4], [-896, 1, -1, -1766, 1766]), (23, [14, 2, 5, 4], [-902, 1, -1, -1766, 1766]), (20, [6, 3], [30, 0, 1, 0, 0, -1, 3, 2005002]), (20, [6, 3], [30, 0, -1, 0, 0, 1, 3, 2005002]), (24, [0, 3], []), (20, [3, 26], [30, 3, 1, 1, 170, -1, 0, 0]), (102, [26], [237142198758023568227473377297792835283496928595231875152809132048206089502588928, 13170]), (23, [26, 2, 5, 4], [-888, 1, -1, -1766, 1766]), (23, [24, 2, 5, 4], [-896, 1, -1, -1766, 1766]), (23, [14, 2, 5, 4], [-902, 1, -1, -1766, 1766]), (102, [24], [237142198758023568227473377297792835283496928595231875152809132048206089502588928, 13170]), (23, [24, 2, 5, 4], [-896, 1, -1, -1766, 1766]), (23, [14, 2, 5, 4], [-902, 1, -1, -1766, 1766]), (102, [14], [237142198758023568227473377297792835283496928595231875152809132048206089502588928, 13170]), (23, [14, 2, 5, 4], [-902, 1, -1, -1766, 1766]), (7, [12, 4], [0]), (7, [5, 6], [2])] ta ws vs := hf
  obtain ⟨f0, hf⟩ := fc_un (show (23 : Nat) < 100 from by decide) hf
  have f0 : 1 * v_iv (n_v vs 26) + ((-1) * v_iv (n_v vs 2) + ((-1766) * v_iv (n_v vs 5) + (1766 * v_iv (n_v vs 4) + 0))) ≤ (-888) := f0
  obtain ⟨f1, hf⟩ := fc_un (show (23 : Nat) < 100 from by decide) hf
  have f1 : 1 * v_iv (n_v vs 24) + ((-1) * v_iv (n_v vs 2) + ((-1766) * v_iv (n_v vs 5) + (1766 * v_iv (n_v vs 4) + 0))) ≤ (-896) := f1
  obtain ⟨f2, hf⟩ := fc_un (show (23 : Nat) < 100 from by decide) hf
  have f2 : 1 * v_iv (n_v vs 14) + ((-1) * v_iv (n_v vs 2) + ((-1766) * v_iv (n_v vs 5) + (1766 * v_iv (n_v vs 4) + 0))) ≤ (-902) := f2
  obtain ⟨f3, hf⟩ := fc_un (show (20 : Nat) < 100 from by decide) hf
  have f3 : 1 * v_iv (n_v vs 6) + ((-1) * w_el ws (w_ar ws (n_v vs 3) 2) (w_fi ws (n_v vs 3) 5 + 2).toNat + 0) ≤ 0 := f3
  obtain ⟨f4, hf⟩ := fc_un (show (20 : Nat) < 100 from by decide) hf
  have f4 : (-1) * v_iv (n_v vs 6) + (1 * w_el ws (w_ar ws (n_v vs 3) 2) (w_fi ws (n_v vs 3) 5 + 2).toNat + 0) ≤ 0 := f4
  obtain ⟨f5, hf⟩ := fc_un (show (24 : Nat) < 100 from by decide) hf
  have f5 : n_v vs 0 = n_v vs 3 := f5
  obtain ⟨f6, hf⟩ := fc_un (show (20 : Nat) < 100 from by decide) hf
  have f6 : 1 * w_fi ws (n_v vs 3) 170 + ((-1) * v_iv (n_v vs 26) + 0) ≤ 3 := f6
  obtain ⟨ta1, w1, le1, ⟨_, s1⟩, hf⟩ := fc_us (show ¬ (102 : Nat) < 100 from by decide) hf
  obtain ⟨f8, hf⟩ := fc_un (show (23 : Nat) < 100 from by decide) hf
  have f8 : 1 * v_iv (n_v vs 26) + ((-1) * v_iv (n_v vs 2) + ((-1766) * v_iv (n_v vs 5) + (1766 * v_iv (n_v vs 4) + 0))) ≤ (-888) := f8
  obtain ⟨f9, hf⟩ := fc_un (show (23 : Nat) < 100 from by decide) hf
  have f9 : 1 * v_iv (n_v vs 24) + ((-1) * v_iv (n_v vs 2) + ((-1766) * v_iv (n_v vs 5) + (1766 * v_iv (n_v vs 4) + 0))) ≤ (-896) := f9
  obtain ⟨f10, hf⟩ := fc_un (show (23 : Nat) < 100 from by decide) hf
  have f10 : 1 * v_iv (n_v vs 14) + ((-1) * v_iv (n_v vs 2) + ((-1766) * v_iv (n_v vs 5) + (1766 * v_iv (n_v vs 4) + 0))) ≤ (-902) := f10
  obtain ⟨ta2, w2, le2, ⟨_, s2⟩, hf⟩ := fc_us (show ¬ (102 : Nat) < 100 from by decide) hf
  obtain ⟨f12, hf⟩ := fc_un (show (23 : Nat) < 100 from by decide) hf
  have f12 : 1 * v_iv (n_v vs 24) + ((-1) * v_iv (n_v vs 2) + ((-1766) * v_iv (n_v vs 5) + (1766 * v_iv (n_v vs 4) + 0))) ≤ (-896) := f12
  obtain ⟨f13, hf⟩ := fc_un (show (23 : Nat) < 100 from by decide) hf
  have f13 : 1 * v_iv (n_v vs 14) + ((-1) * v_iv (n_v vs 2) + ((-1766) * v_iv (n_v vs 5) + (1766 * v_iv (n_v vs 4) + 0))) ≤ (-902) := f13
  obtain ⟨ta3, w3, le3, ⟨_, s3⟩, hf⟩ := fc_us (show ¬ (102 : Nat) < 100 from by decide) hf
  obtain ⟨f15, hf⟩ := fc_un (show (23 : Nat) < 100 from by decide) hf
  have f15 : 1 * v_iv (n_v vs 14) + ((-1) * v_iv (n_v vs 2) + ((-1766) * v_iv (n_v vs 5) + (1766 * v_iv (n_v vs 4) + 0))) ≤ (-902) := f15
  obtain ⟨f16, hf⟩ := fc_un (show (7 : Nat) < 100 from by decide) hf
  have f16 : v_iv (n_v vs 12) = v_iv (n_v vs 4) := f16
  obtain ⟨f17, hf⟩ := fc_un (show (7 : Nat) < 100 from by decide) hf
  have f17 : v_iv (n_v vs 5) < v_iv (n_v vs 6) := f17
  have q3 : n_v vs 3 = n_v vs 0 := f5.symm
  rw [q3] at f3
  rw [q3] at f4
  rw [q3] at f6
  have cr_0_2 : ta (w_ar ws (n_v vs 0) 2) = some 152 := tv_rg (th_fd hD hth r0 (g := GG_150) rfl (k := 2) (t := (2, 0, 0, [152])) rfl rfl)
  have kz_0_170 : 0 ≤ w_fi ws (n_v vs 0) 170 ∧ w_fi ws (n_v vs 0) 170 ≤ 100000000 := tv_rng (th_fd hD hth r0 (g := GG_150) rfl (k := 170) (t := (0, 0, 100000000, [])) rfl rfl)
  have kv0 : 0 ≤ w_fi ws (n_v vs 0) 170 ∧ w_fi ws (n_v vs 0) 170 ≤ 100000000 := tv_rng (th_fd hD hth r0 (g := GG_150) rfl (k := 170) (t := (0, 0, 100000000, [])) rfl rfl)
  obtain ⟨x, ex, hx⟩ := iv_ex (ta := ta) (lo := 0) (hi := 99998253) (z := w_fi ws (n_v vs 0) 170) (by omega) (by omega) (by omega) (by omega)
  have ex2 : v_iv (Value.int x) = w_fi ws (n_v vs 0) 170 := ex
  have ex3 : 0 ≤ v_iv (Value.int x) ∧ v_iv (Value.int x) ≤ 99998253 := tv_rng hx
  have e_2 : n_v (vs ++ [Value.int x]) 2 = n_v vs 2 := n_v_old (by rw [hl]; decide)
  have e_3 : n_v (vs ++ [Value.int x]) 3 = n_v vs 3 := n_v_old (by rw [hl]; decide)
  have e_4 : n_v (vs ++ [Value.int x]) 4 = n_v vs 4 := n_v_old (by rw [hl]; decide)
  have e_5 : n_v (vs ++ [Value.int x]) 5 = n_v vs 5 := n_v_old (by rw [hl]; decide)
  have e_27 : n_v (vs ++ [Value.int x]) 27 = Value.int x := n_v_new hl
  have nf0 : fc_1 (20, [3, 27], [30, 0, 1, 1, 170, -1, 0, 0]) ws (vs ++ [Value.int x]) := by
    refine ⟨fun n hn => ?_, ?_⟩
    · have hn : n ∈ [3, 27] := hn
      rw [List.length_append, hl]
      simp only [List.mem_cons, List.not_mem_nil, or_false] at hn
      show n < 27 + 1; omega
    · show 1 * w_fi ws (n_v (vs ++ [Value.int x]) 3) 170 + ((-1) * v_iv (n_v (vs ++ [Value.int x]) 27) + 0) ≤ 0
      rw [e_3]
      rw [e_27]
      rw [q3]
      omega
  have nf1 : fc_1 (23, [27, 2, 5, 4], [-885, 1, -1, -1766, 1766]) ws (vs ++ [Value.int x]) := by
    refine ⟨fun n hn => ?_, ?_⟩
    · have hn : n ∈ [27, 2, 5, 4] := hn
      rw [List.length_append, hl]
      simp only [List.mem_cons, List.not_mem_nil, or_false] at hn
      show n < 27 + 1; omega
    · show 1 * v_iv (n_v (vs ++ [Value.int x]) 27) + ((-1) * v_iv (n_v (vs ++ [Value.int x]) 2) + ((-1766) * v_iv (n_v (vs ++ [Value.int x]) 5) + (1766 * v_iv (n_v (vs ++ [Value.int x]) 4) + 0))) ≤ (-885)
      rw [e_2]
      rw [e_4]
      rw [e_5]
      rw [e_27]
      omega
  exact ⟨(fun _ h => (by cases h)), [Value.int x], ag_one hx, List.forall_mem_cons.mpr ⟨⟨show (20 : Nat) < 100 from by decide, nf0⟩, List.forall_mem_cons.mpr ⟨⟨show (23 : Nat) < 100 from by decide, nf1⟩, (fun _ h => (by cases h))⟩⟩, (fun _ h => (by cases h))⟩
def o_Mo_writeGroup_at_l5_17 : or_T := (168, 29, [(0, (2, 0, 0, [150])), (2, (0, 0, 99995604, [])), (3, (2, 0, 0, [150])), (4, (0, 5, 6, [])), (5, (0, 6, 7, [])), (6, (0, 7, 8, [])), (12, (0, 5, 6, [])), (14, (0, 0, 99999994, [])), (24, (0, 0, 99999992, [])), (26, (0, 0, 99999997, [])), (27, (0, 0, 99998253, []))], [(23, [27, 2, 5, 4], [-885, 1, -1, -1766, 1766]), (23, [26, 2, 5, 4], [-888, 1, -1, -1766, 1766]), (23, [24, 2, 5, 4], [-896, 1, -1, -1766, 1766]), (23, [14, 2, 5, 4], [-902, 1, -1, -1766, 1766]), (20, [6, 3], [30, 0, 1, 0, 0, -1, 3, 2005002]), (20, [6, 3], [30, 0, -1, 0, 0, 1, 3, 2005002]), (24, [0, 3], []), (20, [3, 27], [30, 1747, 1, 1, 170, -1, 0, 0]), (102, [27], [237142198758023568227473377297792835283496928595231875152809132048206089502588928, 13170]), (23, [27, 2, 5, 4], [-885, 1, -1, -1766, 1766]), (23, [26, 2, 5, 4], [-888, 1, -1, -1766, 1766]), (23, [24, 2, 5, 4], [-896, 1, -1, -1766, 1766]), (23, [14, 2, 5, 4], [-902, 1, -1, -1766, 1766]), (102, [26], [237142198758023568227473377297792835283496928595231875152809132048206089502588928, 13170]), (23, [26, 2, 5, 4], [-888, 1, -1, -1766, 1766]), (23, [24, 2, 5, 4], [-896, 1, -1, -1766, 1766]), (23, [14, 2, 5, 4], [-902, 1, -1, -1766, 1766]), (102, [24], [237142198758023568227473377297792835283496928595231875152809132048206089502588928, 13170]), (23, [24, 2, 5, 4], [-896, 1, -1, -1766, 1766]), (23, [14, 2, 5, 4], [-902, 1, -1, -1766, 1766]), (102, [14], [237142198758023568227473377297792835283496928595231875152809132048206089502588928, 13170]), (23, [14, 2, 5, 4], [-902, 1, -1, -1766, 1766]), (7, [12, 4], [0]), (7, [5, 6], [2])], [], [(0, 0, 99999998, [])], [(20, [3, 29], [30, 0, 1, 1, 170, -1, 0, 0]), (23, [29, 2, 5, 4], [862, 1, -1, -1766, 1766])], [], [(12, 4, 0, 0), (5, 6, -4294967296, -1), (4, 2, -4294967296, 7), (4, 5, -4294967296, -1), (5, 2, -4294967296, 8), (5, 4, -4294967296, 3)])
theorem oo_Mo_writeGroup_at_l5_17 {kA : Nat → ClassId} : or_ok kA GG o_Mo_writeGroup_at_l5_17 := by
  intro A ta ws vs hD hth hl hk hds hf
  have hl : vs.length = 29 := hl
  have hk : ∀ q ∈ ([(0, (2, 0, 0, [150])), (2, (0, 0, 99995604, [])), (3, (2, 0, 0, [150])), (4, (0, 5, 6, [])), (5, (0, 6, 7, [])), (6, (0, 7, 8, [])), (12, (0, 5, 6, [])), (14, (0, 0, 99999994, [])), (24, (0, 0, 99999992, [])), (26, (0, 0, 99999997, [])), (27, (0, 0, 99998253, []))] : List (Nat × tv_T)), tv_ok ta q.2 (n_v vs q.1) := hk
  obtain ⟨t0, hk⟩ := List.forall_mem_cons.mp hk
  have t0 : tv_ok ta (2, 0, 0, [150]) (n_v vs 0) := t0
  have r0 : ta (v_ad (n_v vs 0)) = some 150 := tv_rg t0
  obtain ⟨t2, hk⟩ := List.forall_mem_cons.mp hk
  have t2 : tv_ok ta (0, 0, 99995604, []) (n_v vs 2) := t2
  have k2 : 0 ≤ v_iv (n_v vs 2) ∧ v_iv (n_v vs 2) ≤ 99995604 := tv_rng t2
  obtain ⟨t3, hk⟩ := List.forall_mem_cons.mp hk
  have t3 : tv_ok ta (2, 0, 0, [150]) (n_v vs 3) := t3
  have r3 : ta (v_ad (n_v vs 3)) = some 150 := tv_rg t3
  obtain ⟨t4, hk⟩ := List.forall_mem_cons.mp hk
  have t4 : tv_ok ta (0, 5, 6, []) (n_v vs 4) := t4
  have k4 : 5 ≤ v_iv (n_v vs 4) ∧ v_iv (n_v vs 4) ≤ 6 := tv_rng t4
  obtain ⟨t5, hk⟩ := List.forall_mem_cons.mp hk
  have t5 : tv_ok ta (0, 6, 7, []) (n_v vs 5) := t5
  have k5 : 6 ≤ v_iv (n_v vs 5) ∧ v_iv (n_v vs 5) ≤ 7 := tv_rng t5
  obtain ⟨t6, hk⟩ := List.forall_mem_cons.mp hk
  have t6 : tv_ok ta (0, 7, 8, []) (n_v vs 6) := t6
  have k6 : 7 ≤ v_iv (n_v vs 6) ∧ v_iv (n_v vs 6) ≤ 8 := tv_rng t6
  obtain ⟨t12, hk⟩ := List.forall_mem_cons.mp hk
  have t12 : tv_ok ta (0, 5, 6, []) (n_v vs 12) := t12
  have k12 : 5 ≤ v_iv (n_v vs 12) ∧ v_iv (n_v vs 12) ≤ 6 := tv_rng t12
  obtain ⟨t14, hk⟩ := List.forall_mem_cons.mp hk
  have t14 : tv_ok ta (0, 0, 99999994, []) (n_v vs 14) := t14
  have k14 : 0 ≤ v_iv (n_v vs 14) ∧ v_iv (n_v vs 14) ≤ 99999994 := tv_rng t14
  obtain ⟨t24, hk⟩ := List.forall_mem_cons.mp hk
  have t24 : tv_ok ta (0, 0, 99999992, []) (n_v vs 24) := t24
  have k24 : 0 ≤ v_iv (n_v vs 24) ∧ v_iv (n_v vs 24) ≤ 99999992 := tv_rng t24
  obtain ⟨t26, hk⟩ := List.forall_mem_cons.mp hk
  have t26 : tv_ok ta (0, 0, 99999997, []) (n_v vs 26) := t26
  have k26 : 0 ≤ v_iv (n_v vs 26) ∧ v_iv (n_v vs 26) ≤ 99999997 := tv_rng t26
  obtain ⟨t27, hk⟩ := List.forall_mem_cons.mp hk
  have t27 : tv_ok ta (0, 0, 99998253, []) (n_v vs 27) := t27
  have k27 : 0 ≤ v_iv (n_v vs 27) ∧ v_iv (n_v vs 27) ≤ 99998253 := tv_rng t27
  have hds : ∀ q ∈ ([(12, 4, 0, 0), (5, 6, -4294967296, -1), (4, 2, -4294967296, 7), (4, 5, -4294967296, -1), (5, 2, -4294967296, 8), (5, 4, -4294967296, 3)] : List of_T), n_iv vs q.2.1 + q.2.2.1 ≤ n_iv vs q.1 ∧ n_iv vs q.1 ≤ n_iv vs q.2.1 + q.2.2.2 := hds
  obtain ⟨d0, hds⟩ := List.forall_mem_cons.mp hds
  have d0 : v_iv (n_v vs 4) + 0 ≤ v_iv (n_v vs 12) ∧ v_iv (n_v vs 12) ≤ v_iv (n_v vs 4) + 0 := d0
  obtain ⟨d1, hds⟩ := List.forall_mem_cons.mp hds
  have d1 : v_iv (n_v vs 6) + (-4294967296) ≤ v_iv (n_v vs 5) ∧ v_iv (n_v vs 5) ≤ v_iv (n_v vs 6) + (-1) := d1
  obtain ⟨d2, hds⟩ := List.forall_mem_cons.mp hds
  have d2 : v_iv (n_v vs 2) + (-4294967296) ≤ v_iv (n_v vs 4) ∧ v_iv (n_v vs 4) ≤ v_iv (n_v vs 2) + 7 := d2
  obtain ⟨d3, hds⟩ := List.forall_mem_cons.mp hds
  have d3 : v_iv (n_v vs 5) + (-4294967296) ≤ v_iv (n_v vs 4) ∧ v_iv (n_v vs 4) ≤ v_iv (n_v vs 5) + (-1) := d3
  obtain ⟨d4, hds⟩ := List.forall_mem_cons.mp hds
  have d4 : v_iv (n_v vs 2) + (-4294967296) ≤ v_iv (n_v vs 5) ∧ v_iv (n_v vs 5) ≤ v_iv (n_v vs 2) + 8 := d4
  obtain ⟨d5, hds⟩ := List.forall_mem_cons.mp hds
  have d5 : v_iv (n_v vs 4) + (-4294967296) ≤ v_iv (n_v vs 5) ∧ v_iv (n_v vs 5) ≤ v_iv (n_v vs 4) + 3 := d5
  have hf : fc_ok [(23, [27, 2, 5, 4], [-885, 1, -1, -1766, 1766]), (23, [26, 2, 5, 4], [-888, 1, -1, -1766, 1766]), (23, [24, 2, 5, 4], [-896, 1, -1, -1766, 1766]), (23, [14, 2, 5, 4], [-902, 1, -1, -1766, 1766]), (20, [6, 3], [30, 0, 1, 0, 0, -1, 3, 2005002]), (20, [6, 3], [30, 0, -1, 0, 0, 1, 3, 2005002]), (24, [0, 3], []), (20, [3, 27], [30, 1747, 1, 1, 170, -1, 0, 0]), (102, [27], [237142198758023568227473377297792835283496928595231875152809132048206089502588928, 13170]), (23, [27, 2, 5, 4], [-885, 1, -1, -1766, 1766]), (23, [26, 2, 5, 4], [-888, 1, -1, -1766, 1766]), (23, [24, 2, 5, 4], [-896, 1, -1, -1766, 1766]), (23, [14, 2, 5, 4], [-902, 1, -1, -1766, 1766]), (102, [26], [237142198758023568227473377297792835283496928595231875152809132048206089502588928, 13170]), (23, [26, 2, 5, 4], [-888, 1, -1, -1766, 1766]), (23, [24, 2, 5, 4], [-896, 1, -1, -1766, 1766]), (23, [14, 2, 5, 4], [-902, 1, -1, -1766, 1766]), (102, [24], [237142198758023568227473377297792835283496928595231875152809132048206089502588928, 13170]), (23, [24, 2, 5, 4], [-896, 1, -1, -1766, 1766]), (23, [14, 2, 5, 4], [-902, 1, -1, -1766, 1766]), (102, [14], [237142198758023568227473377297792835283496928595231875152809132048206089502588928, 13170]), (23, [14, 2, 5, 4], [-902, 1, -1, -1766, 1766]), (7, [12, 4], [0]), (7, [5, 6], [2])] ta ws vs := hf
  obtain ⟨f0, hf⟩ := fc_un (show (23 : Nat) < 100 from by decide) hf
  have f0 : 1 * v_iv (n_v vs 27) + ((-1) * v_iv (n_v vs 2) + ((-1766) * v_iv (n_v vs 5) + (1766 * v_iv (n_v vs 4) + 0))) ≤ (-885) := f0
  obtain ⟨f1, hf⟩ := fc_un (show (23 : Nat) < 100 from by decide) hf
  have f1 : 1 * v_iv (n_v vs 26) + ((-1) * v_iv (n_v vs 2) + ((-1766) * v_iv (n_v vs 5) + (1766 * v_iv (n_v vs 4) + 0))) ≤ (-888) := f1
  obtain ⟨f2, hf⟩ := fc_un (show (23 : Nat) < 100 from by decide) hf
  have f2 : 1 * v_iv (n_v vs 24) + ((-1) * v_iv (n_v vs 2) + ((-1766) * v_iv (n_v vs 5) + (1766 * v_iv (n_v vs 4) + 0))) ≤ (-896) := f2
  obtain ⟨f3, hf⟩ := fc_un (show (23 : Nat) < 100 from by decide) hf
  have f3 : 1 * v_iv (n_v vs 14) + ((-1) * v_iv (n_v vs 2) + ((-1766) * v_iv (n_v vs 5) + (1766 * v_iv (n_v vs 4) + 0))) ≤ (-902) := f3
  obtain ⟨f4, hf⟩ := fc_un (show (20 : Nat) < 100 from by decide) hf
  have f4 : 1 * v_iv (n_v vs 6) + ((-1) * w_el ws (w_ar ws (n_v vs 3) 2) (w_fi ws (n_v vs 3) 5 + 2).toNat + 0) ≤ 0 := f4
  obtain ⟨f5, hf⟩ := fc_un (show (20 : Nat) < 100 from by decide) hf
  have f5 : (-1) * v_iv (n_v vs 6) + (1 * w_el ws (w_ar ws (n_v vs 3) 2) (w_fi ws (n_v vs 3) 5 + 2).toNat + 0) ≤ 0 := f5
  obtain ⟨f6, hf⟩ := fc_un (show (24 : Nat) < 100 from by decide) hf
  have f6 : n_v vs 0 = n_v vs 3 := f6
  obtain ⟨f7, hf⟩ := fc_un (show (20 : Nat) < 100 from by decide) hf
  have f7 : 1 * w_fi ws (n_v vs 3) 170 + ((-1) * v_iv (n_v vs 27) + 0) ≤ 1747 := f7
  obtain ⟨ta1, w1, le1, ⟨_, s1⟩, hf⟩ := fc_us (show ¬ (102 : Nat) < 100 from by decide) hf
  obtain ⟨f9, hf⟩ := fc_un (show (23 : Nat) < 100 from by decide) hf
  have f9 : 1 * v_iv (n_v vs 27) + ((-1) * v_iv (n_v vs 2) + ((-1766) * v_iv (n_v vs 5) + (1766 * v_iv (n_v vs 4) + 0))) ≤ (-885) := f9
  obtain ⟨f10, hf⟩ := fc_un (show (23 : Nat) < 100 from by decide) hf
  have f10 : 1 * v_iv (n_v vs 26) + ((-1) * v_iv (n_v vs 2) + ((-1766) * v_iv (n_v vs 5) + (1766 * v_iv (n_v vs 4) + 0))) ≤ (-888) := f10
  obtain ⟨f11, hf⟩ := fc_un (show (23 : Nat) < 100 from by decide) hf
  have f11 : 1 * v_iv (n_v vs 24) + ((-1) * v_iv (n_v vs 2) + ((-1766) * v_iv (n_v vs 5) + (1766 * v_iv (n_v vs 4) + 0))) ≤ (-896) := f11
  obtain ⟨f12, hf⟩ := fc_un (show (23 : Nat) < 100 from by decide) hf
  have f12 : 1 * v_iv (n_v vs 14) + ((-1) * v_iv (n_v vs 2) + ((-1766) * v_iv (n_v vs 5) + (1766 * v_iv (n_v vs 4) + 0))) ≤ (-902) := f12
  obtain ⟨ta2, w2, le2, ⟨_, s2⟩, hf⟩ := fc_us (show ¬ (102 : Nat) < 100 from by decide) hf
  obtain ⟨f14, hf⟩ := fc_un (show (23 : Nat) < 100 from by decide) hf
  have f14 : 1 * v_iv (n_v vs 26) + ((-1) * v_iv (n_v vs 2) + ((-1766) * v_iv (n_v vs 5) + (1766 * v_iv (n_v vs 4) + 0))) ≤ (-888) := f14
  obtain ⟨f15, hf⟩ := fc_un (show (23 : Nat) < 100 from by decide) hf
  have f15 : 1 * v_iv (n_v vs 24) + ((-1) * v_iv (n_v vs 2) + ((-1766) * v_iv (n_v vs 5) + (1766 * v_iv (n_v vs 4) + 0))) ≤ (-896) := f15
  obtain ⟨f16, hf⟩ := fc_un (show (23 : Nat) < 100 from by decide) hf
  have f16 : 1 * v_iv (n_v vs 14) + ((-1) * v_iv (n_v vs 2) + ((-1766) * v_iv (n_v vs 5) + (1766 * v_iv (n_v vs 4) + 0))) ≤ (-902) := f16
  obtain ⟨ta3, w3, le3, ⟨_, s3⟩, hf⟩ := fc_us (show ¬ (102 : Nat) < 100 from by decide) hf
  obtain ⟨f18, hf⟩ := fc_un (show (23 : Nat) < 100 from by decide) hf
  have f18 : 1 * v_iv (n_v vs 24) + ((-1) * v_iv (n_v vs 2) + ((-1766) * v_iv (n_v vs 5) + (1766 * v_iv (n_v vs 4) + 0))) ≤ (-896) := f18
  obtain ⟨f19, hf⟩ := fc_un (show (23 : Nat) < 100 from by decide) hf
  have f19 : 1 * v_iv (n_v vs 14) + ((-1) * v_iv (n_v vs 2) + ((-1766) * v_iv (n_v vs 5) + (1766 * v_iv (n_v vs 4) + 0))) ≤ (-902) := f19
  obtain ⟨ta4, w4, le4, ⟨_, s4⟩, hf⟩ := fc_us (show ¬ (102 : Nat) < 100 from by decide) hf
  obtain ⟨f21, hf⟩ := fc_un (show (23 : Nat) < 100 from by decide) hf
  have f21 : 1 * v_iv (n_v vs 14) + ((-1) * v_iv (n_v vs 2) + ((-1766) * v_iv (n_v vs 5) + (1766 * v_iv (n_v vs 4) + 0))) ≤ (-902) := f21
  obtain ⟨f22, hf⟩ := fc_un (show (7 : Nat) < 100 from by decide) hf
  have f22 : v_iv (n_v vs 12) = v_iv (n_v vs 4) := f22
  obtain ⟨f23, hf⟩ := fc_un (show (7 : Nat) < 100 from by decide) hf
  have f23 : v_iv (n_v vs 5) < v_iv (n_v vs 6) := f23
  have q3 : n_v vs 3 = n_v vs 0 := f6.symm
  rw [q3] at f4
  rw [q3] at f5
  rw [q3] at f7
  have cr_0_2 : ta (w_ar ws (n_v vs 0) 2) = some 152 := tv_rg (th_fd hD hth r0 (g := GG_150) rfl (k := 2) (t := (2, 0, 0, [152])) rfl rfl)
  have kz_0_170 : 0 ≤ w_fi ws (n_v vs 0) 170 ∧ w_fi ws (n_v vs 0) 170 ≤ 100000000 := tv_rng (th_fd hD hth r0 (g := GG_150) rfl (k := 170) (t := (0, 0, 100000000, [])) rfl rfl)
  have kv0 : 0 ≤ w_fi ws (n_v vs 0) 170 ∧ w_fi ws (n_v vs 0) 170 ≤ 100000000 := tv_rng (th_fd hD hth r0 (g := GG_150) rfl (k := 170) (t := (0, 0, 100000000, [])) rfl rfl)
  obtain ⟨x, ex, hx⟩ := iv_ex (ta := ta) (lo := 0) (hi := 99999998) (z := w_fi ws (n_v vs 0) 170) (by omega) (by omega) (by omega) (by omega)
  have ex2 : v_iv (Value.int x) = w_fi ws (n_v vs 0) 170 := ex
  have ex3 : 0 ≤ v_iv (Value.int x) ∧ v_iv (Value.int x) ≤ 99999998 := tv_rng hx
  have e_2 : n_v (vs ++ [Value.int x]) 2 = n_v vs 2 := n_v_old (by rw [hl]; decide)
  have e_3 : n_v (vs ++ [Value.int x]) 3 = n_v vs 3 := n_v_old (by rw [hl]; decide)
  have e_4 : n_v (vs ++ [Value.int x]) 4 = n_v vs 4 := n_v_old (by rw [hl]; decide)
  have e_5 : n_v (vs ++ [Value.int x]) 5 = n_v vs 5 := n_v_old (by rw [hl]; decide)
  have e_29 : n_v (vs ++ [Value.int x]) 29 = Value.int x := n_v_new hl
  have nf0 : fc_1 (20, [3, 29], [30, 0, 1, 1, 170, -1, 0, 0]) ws (vs ++ [Value.int x]) := by
    refine ⟨fun n hn => ?_, ?_⟩
    · have hn : n ∈ [3, 29] := hn
      rw [List.length_append, hl]
      simp only [List.mem_cons, List.not_mem_nil, or_false] at hn
      show n < 29 + 1; omega
    · show 1 * w_fi ws (n_v (vs ++ [Value.int x]) 3) 170 + ((-1) * v_iv (n_v (vs ++ [Value.int x]) 29) + 0) ≤ 0
      rw [e_3]
      rw [e_29]
      rw [q3]
      omega
  have nf1 : fc_1 (23, [29, 2, 5, 4], [862, 1, -1, -1766, 1766]) ws (vs ++ [Value.int x]) := by
    refine ⟨fun n hn => ?_, ?_⟩
    · have hn : n ∈ [29, 2, 5, 4] := hn
      rw [List.length_append, hl]
      simp only [List.mem_cons, List.not_mem_nil, or_false] at hn
      show n < 29 + 1; omega
    · show 1 * v_iv (n_v (vs ++ [Value.int x]) 29) + ((-1) * v_iv (n_v (vs ++ [Value.int x]) 2) + ((-1766) * v_iv (n_v (vs ++ [Value.int x]) 5) + (1766 * v_iv (n_v (vs ++ [Value.int x]) 4) + 0))) ≤ 862
      rw [e_2]
      rw [e_4]
      rw [e_5]
      rw [e_29]
      omega
  exact ⟨(fun _ h => (by cases h)), [Value.int x], ag_one hx, List.forall_mem_cons.mpr ⟨⟨show (20 : Nat) < 100 from by decide, nf0⟩, List.forall_mem_cons.mpr ⟨⟨show (23 : Nat) < 100 from by decide, nf1⟩, (fun _ h => (by cases h))⟩⟩, (fun _ h => (by cases h))⟩
def o_Mo_writeGroup_at_l5_18 : or_T := (83, 31, [(0, (2, 0, 0, [150])), (2, (0, 0, 99995604, [])), (3, (2, 0, 0, [150])), (4, (0, 5, 6, [])), (5, (0, 6, 7, [])), (6, (0, 7, 8, [])), (12, (0, 5, 6, [])), (14, (0, 0, 99999994, [])), (24, (0, 0, 99999992, [])), (26, (0, 0, 99999997, [])), (27, (0, 0, 99998253, [])), (29, (0, 0, 99999998, [])), (30, (0, 7, 8, []))], [(6, [30, 5], [1]), (23, [29, 2, 5, 4], [862, 1, -1, -1766, 1766]), (23, [27, 2, 5, 4], [-885, 1, -1, -1766, 1766]), (23, [26, 2, 5, 4], [-888, 1, -1, -1766, 1766]), (23, [24, 2, 5, 4], [-896, 1, -1, -1766, 1766]), (23, [14, 2, 5, 4], [-902, 1, -1, -1766, 1766]), (20, [6, 3], [30, 0, 1, 0, 0, -1, 3, 2005002]), (20, [6, 3], [30, 0, -1, 0, 0, 1, 3, 2005002]), (24, [0, 3], []), (20, [3, 29], [30, 2, 1, 1, 170, -1, 0, 0]), (102, [29], [237142198758023568227473377297792835283496928595231875152809132048206089502588928, 13170]), (23, [29, 2, 5, 4], [862, 1, -1, -1766, 1766]), (23, [27, 2, 5, 4], [-885, 1, -1, -1766, 1766]), (23, [26, 2, 5, 4], [-888, 1, -1, -1766, 1766]), (23, [24, 2, 5, 4], [-896, 1, -1, -1766, 1766]), (23, [14, 2, 5, 4], [-902, 1, -1, -1766, 1766]), (102, [27], [237142198758023568227473377297792835283496928595231875152809132048206089502588928, 13170]), (23, [27, 2, 5, 4], [-885, 1, -1, -1766, 1766]), (23, [26, 2, 5, 4], [-888, 1, -1, -1766, 1766]), (23, [24, 2, 5, 4], [-896, 1, -1, -1766, 1766]), (23, [14, 2, 5, 4], [-902, 1, -1, -1766, 1766]), (102, [26], [237142198758023568227473377297792835283496928595231875152809132048206089502588928, 13170]), (23, [26, 2, 5, 4], [-888, 1, -1, -1766, 1766]), (23, [24, 2, 5, 4], [-896, 1, -1, -1766, 1766]), (23, [14, 2, 5, 4], [-902, 1, -1, -1766, 1766]), (102, [24], [237142198758023568227473377297792835283496928595231875152809132048206089502588928, 13170]), (23, [24, 2, 5, 4], [-896, 1, -1, -1766, 1766]), (23, [14, 2, 5, 4], [-902, 1, -1, -1766, 1766]), (102, [14], [237142198758023568227473377297792835283496928595231875152809132048206089502588928, 13170]), (23, [14, 2, 5, 4], [-902, 1, -1, -1766, 1766]), (7, [12, 4], [0]), (7, [5, 6], [2])], [], [], [(20, [3, 2, 30, 4], [30, -902, 1, 1, 170, -1, 0, 0, -1766, 0, 0, 1766, 0, 0])], [], [(30, 5, 1, 1), (30, 6, -4294967296, 0), (30, 2, -4294967296, 9), (30, 4, -4294967296, 4), (12, 4, 0, 0), (5, 6, -4294967296, -1), (4, 2, -4294967296, 7), (4, 5, -4294967296, -1), (5, 2, -4294967296, 8), (5, 4, -4294967296, 3)])
theorem oo_Mo_writeGroup_at_l5_18 {kA : Nat → ClassId} : or_ok kA GG o_Mo_writeGroup_at_l5_18 := by
  intro A ta ws vs hD hth hl hk hds hf
  have hl : vs.length = 31 := hl
  have hk : ∀ q ∈ ([(0, (2, 0, 0, [150])), (2, (0, 0, 99995604, [])), (3, (2, 0, 0, [150])), (4, (0, 5, 6, [])), (5, (0, 6, 7, [])), (6, (0, 7, 8, [])), (12, (0, 5, 6, [])), (14, (0, 0, 99999994, [])), (24, (0, 0, 99999992, [])), (26, (0, 0, 99999997, [])), (27, (0, 0, 99998253, [])), (29, (0, 0, 99999998, [])), (30, (0, 7, 8, []))] : List (Nat × tv_T)), tv_ok ta q.2 (n_v vs q.1) := hk
  obtain ⟨t0, hk⟩ := List.forall_mem_cons.mp hk
  have t0 : tv_ok ta (2, 0, 0, [150]) (n_v vs 0) := t0
  have r0 : ta (v_ad (n_v vs 0)) = some 150 := tv_rg t0
  obtain ⟨t2, hk⟩ := List.forall_mem_cons.mp hk
  have t2 : tv_ok ta (0, 0, 99995604, []) (n_v vs 2) := t2
  have k2 : 0 ≤ v_iv (n_v vs 2) ∧ v_iv (n_v vs 2) ≤ 99995604 := tv_rng t2
  obtain ⟨t3, hk⟩ := List.forall_mem_cons.mp hk
  have t3 : tv_ok ta (2, 0, 0, [150]) (n_v vs 3) := t3
  have r3 : ta (v_ad (n_v vs 3)) = some 150 := tv_rg t3
  obtain ⟨t4, hk⟩ := List.forall_mem_cons.mp hk
  have t4 : tv_ok ta (0, 5, 6, []) (n_v vs 4) := t4
  have k4 : 5 ≤ v_iv (n_v vs 4) ∧ v_iv (n_v vs 4) ≤ 6 := tv_rng t4
  obtain ⟨t5, hk⟩ := List.forall_mem_cons.mp hk
  have t5 : tv_ok ta (0, 6, 7, []) (n_v vs 5) := t5
  have k5 : 6 ≤ v_iv (n_v vs 5) ∧ v_iv (n_v vs 5) ≤ 7 := tv_rng t5
  obtain ⟨t6, hk⟩ := List.forall_mem_cons.mp hk
  have t6 : tv_ok ta (0, 7, 8, []) (n_v vs 6) := t6
  have k6 : 7 ≤ v_iv (n_v vs 6) ∧ v_iv (n_v vs 6) ≤ 8 := tv_rng t6
  obtain ⟨t12, hk⟩ := List.forall_mem_cons.mp hk
  have t12 : tv_ok ta (0, 5, 6, []) (n_v vs 12) := t12
  have k12 : 5 ≤ v_iv (n_v vs 12) ∧ v_iv (n_v vs 12) ≤ 6 := tv_rng t12
  obtain ⟨t14, hk⟩ := List.forall_mem_cons.mp hk
  have t14 : tv_ok ta (0, 0, 99999994, []) (n_v vs 14) := t14
  have k14 : 0 ≤ v_iv (n_v vs 14) ∧ v_iv (n_v vs 14) ≤ 99999994 := tv_rng t14
  obtain ⟨t24, hk⟩ := List.forall_mem_cons.mp hk
  have t24 : tv_ok ta (0, 0, 99999992, []) (n_v vs 24) := t24
  have k24 : 0 ≤ v_iv (n_v vs 24) ∧ v_iv (n_v vs 24) ≤ 99999992 := tv_rng t24
  obtain ⟨t26, hk⟩ := List.forall_mem_cons.mp hk
  have t26 : tv_ok ta (0, 0, 99999997, []) (n_v vs 26) := t26
  have k26 : 0 ≤ v_iv (n_v vs 26) ∧ v_iv (n_v vs 26) ≤ 99999997 := tv_rng t26
  obtain ⟨t27, hk⟩ := List.forall_mem_cons.mp hk
  have t27 : tv_ok ta (0, 0, 99998253, []) (n_v vs 27) := t27
  have k27 : 0 ≤ v_iv (n_v vs 27) ∧ v_iv (n_v vs 27) ≤ 99998253 := tv_rng t27
  obtain ⟨t29, hk⟩ := List.forall_mem_cons.mp hk
  have t29 : tv_ok ta (0, 0, 99999998, []) (n_v vs 29) := t29
  have k29 : 0 ≤ v_iv (n_v vs 29) ∧ v_iv (n_v vs 29) ≤ 99999998 := tv_rng t29
  obtain ⟨t30, hk⟩ := List.forall_mem_cons.mp hk
  have t30 : tv_ok ta (0, 7, 8, []) (n_v vs 30) := t30
  have k30 : 7 ≤ v_iv (n_v vs 30) ∧ v_iv (n_v vs 30) ≤ 8 := tv_rng t30
  have hds : ∀ q ∈ ([(30, 5, 1, 1), (30, 6, -4294967296, 0), (30, 2, -4294967296, 9), (30, 4, -4294967296, 4), (12, 4, 0, 0), (5, 6, -4294967296, -1), (4, 2, -4294967296, 7), (4, 5, -4294967296, -1), (5, 2, -4294967296, 8), (5, 4, -4294967296, 3)] : List of_T), n_iv vs q.2.1 + q.2.2.1 ≤ n_iv vs q.1 ∧ n_iv vs q.1 ≤ n_iv vs q.2.1 + q.2.2.2 := hds
  obtain ⟨d0, hds⟩ := List.forall_mem_cons.mp hds
  have d0 : v_iv (n_v vs 5) + 1 ≤ v_iv (n_v vs 30) ∧ v_iv (n_v vs 30) ≤ v_iv (n_v vs 5) + 1 := d0
  obtain ⟨d1, hds⟩ := List.forall_mem_cons.mp hds
  have d1 : v_iv (n_v vs 6) + (-4294967296) ≤ v_iv (n_v vs 30) ∧ v_iv (n_v vs 30) ≤ v_iv (n_v vs 6) + 0 := d1
  obtain ⟨d2, hds⟩ := List.forall_mem_cons.mp hds
  have d2 : v_iv (n_v vs 2) + (-4294967296) ≤ v_iv (n_v vs 30) ∧ v_iv (n_v vs 30) ≤ v_iv (n_v vs 2) + 9 := d2
  obtain ⟨d3, hds⟩ := List.forall_mem_cons.mp hds
  have d3 : v_iv (n_v vs 4) + (-4294967296) ≤ v_iv (n_v vs 30) ∧ v_iv (n_v vs 30) ≤ v_iv (n_v vs 4) + 4 := d3
  obtain ⟨d4, hds⟩ := List.forall_mem_cons.mp hds
  have d4 : v_iv (n_v vs 4) + 0 ≤ v_iv (n_v vs 12) ∧ v_iv (n_v vs 12) ≤ v_iv (n_v vs 4) + 0 := d4
  obtain ⟨d5, hds⟩ := List.forall_mem_cons.mp hds
  have d5 : v_iv (n_v vs 6) + (-4294967296) ≤ v_iv (n_v vs 5) ∧ v_iv (n_v vs 5) ≤ v_iv (n_v vs 6) + (-1) := d5
  obtain ⟨d6, hds⟩ := List.forall_mem_cons.mp hds
  have d6 : v_iv (n_v vs 2) + (-4294967296) ≤ v_iv (n_v vs 4) ∧ v_iv (n_v vs 4) ≤ v_iv (n_v vs 2) + 7 := d6
  obtain ⟨d7, hds⟩ := List.forall_mem_cons.mp hds
  have d7 : v_iv (n_v vs 5) + (-4294967296) ≤ v_iv (n_v vs 4) ∧ v_iv (n_v vs 4) ≤ v_iv (n_v vs 5) + (-1) := d7
  obtain ⟨d8, hds⟩ := List.forall_mem_cons.mp hds
  have d8 : v_iv (n_v vs 2) + (-4294967296) ≤ v_iv (n_v vs 5) ∧ v_iv (n_v vs 5) ≤ v_iv (n_v vs 2) + 8 := d8
  obtain ⟨d9, hds⟩ := List.forall_mem_cons.mp hds
  have d9 : v_iv (n_v vs 4) + (-4294967296) ≤ v_iv (n_v vs 5) ∧ v_iv (n_v vs 5) ≤ v_iv (n_v vs 4) + 3 := d9
  have hf : fc_ok [(6, [30, 5], [1]), (23, [29, 2, 5, 4], [862, 1, -1, -1766, 1766]), (23, [27, 2, 5, 4], [-885, 1, -1, -1766, 1766]), (23, [26, 2, 5, 4], [-888, 1, -1, -1766, 1766]), (23, [24, 2, 5, 4], [-896, 1, -1, -1766, 1766]), (23, [14, 2, 5, 4], [-902, 1, -1, -1766, 1766]), (20, [6, 3], [30, 0, 1, 0, 0, -1, 3, 2005002]), (20, [6, 3], [30, 0, -1, 0, 0, 1, 3, 2005002]), (24, [0, 3], []), (20, [3, 29], [30, 2, 1, 1, 170, -1, 0, 0]), (102, [29], [237142198758023568227473377297792835283496928595231875152809132048206089502588928, 13170]), (23, [29, 2, 5, 4], [862, 1, -1, -1766, 1766]), (23, [27, 2, 5, 4], [-885, 1, -1, -1766, 1766]), (23, [26, 2, 5, 4], [-888, 1, -1, -1766, 1766]), (23, [24, 2, 5, 4], [-896, 1, -1, -1766, 1766]), (23, [14, 2, 5, 4], [-902, 1, -1, -1766, 1766]), (102, [27], [237142198758023568227473377297792835283496928595231875152809132048206089502588928, 13170]), (23, [27, 2, 5, 4], [-885, 1, -1, -1766, 1766]), (23, [26, 2, 5, 4], [-888, 1, -1, -1766, 1766]), (23, [24, 2, 5, 4], [-896, 1, -1, -1766, 1766]), (23, [14, 2, 5, 4], [-902, 1, -1, -1766, 1766]), (102, [26], [237142198758023568227473377297792835283496928595231875152809132048206089502588928, 13170]), (23, [26, 2, 5, 4], [-888, 1, -1, -1766, 1766]), (23, [24, 2, 5, 4], [-896, 1, -1, -1766, 1766]), (23, [14, 2, 5, 4], [-902, 1, -1, -1766, 1766]), (102, [24], [237142198758023568227473377297792835283496928595231875152809132048206089502588928, 13170]), (23, [24, 2, 5, 4], [-896, 1, -1, -1766, 1766]), (23, [14, 2, 5, 4], [-902, 1, -1, -1766, 1766]), (102, [14], [237142198758023568227473377297792835283496928595231875152809132048206089502588928, 13170]), (23, [14, 2, 5, 4], [-902, 1, -1, -1766, 1766]), (7, [12, 4], [0]), (7, [5, 6], [2])] ta ws vs := hf
  obtain ⟨f0, hf⟩ := fc_un (show (6 : Nat) < 100 from by decide) hf
  have f0 : v_iv (n_v vs 30) = v_iv (n_v vs 5) + 1 := f0
  obtain ⟨f1, hf⟩ := fc_un (show (23 : Nat) < 100 from by decide) hf
  have f1 : 1 * v_iv (n_v vs 29) + ((-1) * v_iv (n_v vs 2) + ((-1766) * v_iv (n_v vs 5) + (1766 * v_iv (n_v vs 4) + 0))) ≤ 862 := f1
  obtain ⟨f2, hf⟩ := fc_un (show (23 : Nat) < 100 from by decide) hf
  have f2 : 1 * v_iv (n_v vs 27) + ((-1) * v_iv (n_v vs 2) + ((-1766) * v_iv (n_v vs 5) + (1766 * v_iv (n_v vs 4) + 0))) ≤ (-885) := f2
  obtain ⟨f3, hf⟩ := fc_un (show (23 : Nat) < 100 from by decide) hf
  have f3 : 1 * v_iv (n_v vs 26) + ((-1) * v_iv (n_v vs 2) + ((-1766) * v_iv (n_v vs 5) + (1766 * v_iv (n_v vs 4) + 0))) ≤ (-888) := f3
  obtain ⟨f4, hf⟩ := fc_un (show (23 : Nat) < 100 from by decide) hf
  have f4 : 1 * v_iv (n_v vs 24) + ((-1) * v_iv (n_v vs 2) + ((-1766) * v_iv (n_v vs 5) + (1766 * v_iv (n_v vs 4) + 0))) ≤ (-896) := f4
  obtain ⟨f5, hf⟩ := fc_un (show (23 : Nat) < 100 from by decide) hf
  have f5 : 1 * v_iv (n_v vs 14) + ((-1) * v_iv (n_v vs 2) + ((-1766) * v_iv (n_v vs 5) + (1766 * v_iv (n_v vs 4) + 0))) ≤ (-902) := f5
  obtain ⟨f6, hf⟩ := fc_un (show (20 : Nat) < 100 from by decide) hf
  have f6 : 1 * v_iv (n_v vs 6) + ((-1) * w_el ws (w_ar ws (n_v vs 3) 2) (w_fi ws (n_v vs 3) 5 + 2).toNat + 0) ≤ 0 := f6
  obtain ⟨f7, hf⟩ := fc_un (show (20 : Nat) < 100 from by decide) hf
  have f7 : (-1) * v_iv (n_v vs 6) + (1 * w_el ws (w_ar ws (n_v vs 3) 2) (w_fi ws (n_v vs 3) 5 + 2).toNat + 0) ≤ 0 := f7
  obtain ⟨f8, hf⟩ := fc_un (show (24 : Nat) < 100 from by decide) hf
  have f8 : n_v vs 0 = n_v vs 3 := f8
  obtain ⟨f9, hf⟩ := fc_un (show (20 : Nat) < 100 from by decide) hf
  have f9 : 1 * w_fi ws (n_v vs 3) 170 + ((-1) * v_iv (n_v vs 29) + 0) ≤ 2 := f9
  obtain ⟨ta1, w1, le1, ⟨_, s1⟩, hf⟩ := fc_us (show ¬ (102 : Nat) < 100 from by decide) hf
  obtain ⟨f11, hf⟩ := fc_un (show (23 : Nat) < 100 from by decide) hf
  have f11 : 1 * v_iv (n_v vs 29) + ((-1) * v_iv (n_v vs 2) + ((-1766) * v_iv (n_v vs 5) + (1766 * v_iv (n_v vs 4) + 0))) ≤ 862 := f11
  obtain ⟨f12, hf⟩ := fc_un (show (23 : Nat) < 100 from by decide) hf
  have f12 : 1 * v_iv (n_v vs 27) + ((-1) * v_iv (n_v vs 2) + ((-1766) * v_iv (n_v vs 5) + (1766 * v_iv (n_v vs 4) + 0))) ≤ (-885) := f12
  obtain ⟨f13, hf⟩ := fc_un (show (23 : Nat) < 100 from by decide) hf
  have f13 : 1 * v_iv (n_v vs 26) + ((-1) * v_iv (n_v vs 2) + ((-1766) * v_iv (n_v vs 5) + (1766 * v_iv (n_v vs 4) + 0))) ≤ (-888) := f13
  obtain ⟨f14, hf⟩ := fc_un (show (23 : Nat) < 100 from by decide) hf
  have f14 : 1 * v_iv (n_v vs 24) + ((-1) * v_iv (n_v vs 2) + ((-1766) * v_iv (n_v vs 5) + (1766 * v_iv (n_v vs 4) + 0))) ≤ (-896) := f14
  obtain ⟨f15, hf⟩ := fc_un (show (23 : Nat) < 100 from by decide) hf
  have f15 : 1 * v_iv (n_v vs 14) + ((-1) * v_iv (n_v vs 2) + ((-1766) * v_iv (n_v vs 5) + (1766 * v_iv (n_v vs 4) + 0))) ≤ (-902) := f15
  obtain ⟨ta2, w2, le2, ⟨_, s2⟩, hf⟩ := fc_us (show ¬ (102 : Nat) < 100 from by decide) hf
  obtain ⟨f17, hf⟩ := fc_un (show (23 : Nat) < 100 from by decide) hf
  have f17 : 1 * v_iv (n_v vs 27) + ((-1) * v_iv (n_v vs 2) + ((-1766) * v_iv (n_v vs 5) + (1766 * v_iv (n_v vs 4) + 0))) ≤ (-885) := f17
  obtain ⟨f18, hf⟩ := fc_un (show (23 : Nat) < 100 from by decide) hf
  have f18 : 1 * v_iv (n_v vs 26) + ((-1) * v_iv (n_v vs 2) + ((-1766) * v_iv (n_v vs 5) + (1766 * v_iv (n_v vs 4) + 0))) ≤ (-888) := f18
  obtain ⟨f19, hf⟩ := fc_un (show (23 : Nat) < 100 from by decide) hf
  have f19 : 1 * v_iv (n_v vs 24) + ((-1) * v_iv (n_v vs 2) + ((-1766) * v_iv (n_v vs 5) + (1766 * v_iv (n_v vs 4) + 0))) ≤ (-896) := f19
  obtain ⟨f20, hf⟩ := fc_un (show (23 : Nat) < 100 from by decide) hf
  have f20 : 1 * v_iv (n_v vs 14) + ((-1) * v_iv (n_v vs 2) + ((-1766) * v_iv (n_v vs 5) + (1766 * v_iv (n_v vs 4) + 0))) ≤ (-902) := f20
  obtain ⟨ta3, w3, le3, ⟨_, s3⟩, hf⟩ := fc_us (show ¬ (102 : Nat) < 100 from by decide) hf
  obtain ⟨f22, hf⟩ := fc_un (show (23 : Nat) < 100 from by decide) hf
  have f22 : 1 * v_iv (n_v vs 26) + ((-1) * v_iv (n_v vs 2) + ((-1766) * v_iv (n_v vs 5) + (1766 * v_iv (n_v vs 4) + 0))) ≤ (-888) := f22
  obtain ⟨f23, hf⟩ := fc_un (show (23 : Nat) < 100 from by decide) hf
  have f23 : 1 * v_iv (n_v vs 24) + ((-1) * v_iv (n_v vs 2) + ((-1766) * v_iv (n_v vs 5) + (1766 * v_iv (n_v vs 4) + 0))) ≤ (-896) := f23
  obtain ⟨f24, hf⟩ := fc_un (show (23 : Nat) < 100 from by decide) hf
  have f24 : 1 * v_iv (n_v vs 14) + ((-1) * v_iv (n_v vs 2) + ((-1766) * v_iv (n_v vs 5) + (1766 * v_iv (n_v vs 4) + 0))) ≤ (-902) := f24
  obtain ⟨ta4, w4, le4, ⟨_, s4⟩, hf⟩ := fc_us (show ¬ (102 : Nat) < 100 from by decide) hf
  obtain ⟨f26, hf⟩ := fc_un (show (23 : Nat) < 100 from by decide) hf
  have f26 : 1 * v_iv (n_v vs 24) + ((-1) * v_iv (n_v vs 2) + ((-1766) * v_iv (n_v vs 5) + (1766 * v_iv (n_v vs 4) + 0))) ≤ (-896) := f26
  obtain ⟨f27, hf⟩ := fc_un (show (23 : Nat) < 100 from by decide) hf
  have f27 : 1 * v_iv (n_v vs 14) + ((-1) * v_iv (n_v vs 2) + ((-1766) * v_iv (n_v vs 5) + (1766 * v_iv (n_v vs 4) + 0))) ≤ (-902) := f27
  obtain ⟨ta5, w5, le5, ⟨_, s5⟩, hf⟩ := fc_us (show ¬ (102 : Nat) < 100 from by decide) hf
  obtain ⟨f29, hf⟩ := fc_un (show (23 : Nat) < 100 from by decide) hf
  have f29 : 1 * v_iv (n_v vs 14) + ((-1) * v_iv (n_v vs 2) + ((-1766) * v_iv (n_v vs 5) + (1766 * v_iv (n_v vs 4) + 0))) ≤ (-902) := f29
  obtain ⟨f30, hf⟩ := fc_un (show (7 : Nat) < 100 from by decide) hf
  have f30 : v_iv (n_v vs 12) = v_iv (n_v vs 4) := f30
  obtain ⟨f31, hf⟩ := fc_un (show (7 : Nat) < 100 from by decide) hf
  have f31 : v_iv (n_v vs 5) < v_iv (n_v vs 6) := f31
  have q3 : n_v vs 3 = n_v vs 0 := f8.symm
  rw [q3] at f6
  rw [q3] at f7
  rw [q3] at f9
  have cr_0_2 : ta (w_ar ws (n_v vs 0) 2) = some 152 := tv_rg (th_fd hD hth r0 (g := GG_150) rfl (k := 2) (t := (2, 0, 0, [152])) rfl rfl)
  have kz_0_170 : 0 ≤ w_fi ws (n_v vs 0) 170 ∧ w_fi ws (n_v vs 0) 170 ≤ 100000000 := tv_rng (th_fd hD hth r0 (g := GG_150) rfl (k := 170) (t := (0, 0, 100000000, [])) rfl rfl)
  have nf0 : fc_1 (20, [3, 2, 30, 4], [30, -902, 1, 1, 170, -1, 0, 0, -1766, 0, 0, 1766, 0, 0]) ws (vs) := by
    refine ⟨fun n hn => ?_, ?_⟩
    · have hn : n ∈ [3, 2, 30, 4] := hn
      rw [hl]
      simp only [List.mem_cons, List.not_mem_nil, or_false] at hn
      show n < 31; omega
    · show 1 * w_fi ws (n_v vs 3) 170 + ((-1) * v_iv (n_v vs 2) + ((-1766) * v_iv (n_v vs 30) + (1766 * v_iv (n_v vs 4) + 0))) ≤ (-902)
      rw [q3]
      omega
  refine ⟨(fun _ h => (by cases h)), [], trivial, ?_, (fun _ h => (by cases h))⟩
  rw [List.append_nil]
  exact List.forall_mem_cons.mpr ⟨⟨show (20 : Nat) < 100 from by decide, nf0⟩, (fun _ h => (by cases h))⟩
def o_Mo_writeGroup_at_l5_19 : or_T := (83, 14, [(0, (2, 0, 0, [150])), (2, (0, 0, 99995604, [])), (3, (2, 0, 0, [150])), (4, (0, 5, 6, [])), (5, (0, 6, 7, [])), (6, (0, 7, 8, [])), (7, (2, 0, 0, [152])), (8, (0, 0, 66297, [])), (9, (0, 531, 531, [])), (10, (0, 531, 66828, [])), (11, (0, 537, 66835, [])), (12, (0, -1, 6, [])), (13, (0, 7, 8, []))], [(6, [13, 5], [1]), (7, [12, 4], [1]), (10, [12, 7, 11], []), (1, [11, 10, 5], []), (1, [10, 8, 9], []), (9, [8, 3], [5]), (9, [7, 3], [2]), (7, [5, 6], [2]), (20, [6, 3], [30, 0, 1, 0, 0, -1, 3, 2005002]), (20, [6, 3], [30, 0, -1, 0, 0, 1, 3, 2005002]), (20, [3, 2, 5, 4], [30, -902, 1, 1, 170, -1, 0, 0, -1766, 0, 0, 1766, 0, 0]), (24, [0, 3], [])], [], [], [(20, [3, 2, 13, 4], [30, -902, 1, 1, 170, -1, 0, 0, -1766, 0, 0, 1766, 0, 0])], [], [(13, 5, 1, 1), (13, 6, -4294967296, 0), (13, 2, -4294967296, 9), (13, 4, -4294967296, 4), (11, 5, 531, 66828), (11, 6, -4294967296, 66827), (11, 2, -4294967296, 66836), (11, 4, -4294967296, 66831), (11, 10, 6, 7), (11, 8, 537, 538), (10, 8, 531, 531), (5, 6, -4294967296, -1), (4, 2, -4294967296, 7), (4, 5, -4294967296, -1), (5, 2, -4294967296, 8), (5, 4, -4294967296, 3)])
theorem oo_Mo_writeGroup_at_l5_19 {kA : Nat → ClassId} : or_ok kA GG o_Mo_writeGroup_at_l5_19 := by
  intro A ta ws vs hD hth hl hk hds hf
  have hl : vs.length = 14 := hl
  have hk : ∀ q ∈ ([(0, (2, 0, 0, [150])), (2, (0, 0, 99995604, [])), (3, (2, 0, 0, [150])), (4, (0, 5, 6, [])), (5, (0, 6, 7, [])), (6, (0, 7, 8, [])), (7, (2, 0, 0, [152])), (8, (0, 0, 66297, [])), (9, (0, 531, 531, [])), (10, (0, 531, 66828, [])), (11, (0, 537, 66835, [])), (12, (0, -1, 6, [])), (13, (0, 7, 8, []))] : List (Nat × tv_T)), tv_ok ta q.2 (n_v vs q.1) := hk
  obtain ⟨t0, hk⟩ := List.forall_mem_cons.mp hk
  have t0 : tv_ok ta (2, 0, 0, [150]) (n_v vs 0) := t0
  have r0 : ta (v_ad (n_v vs 0)) = some 150 := tv_rg t0
  obtain ⟨t2, hk⟩ := List.forall_mem_cons.mp hk
  have t2 : tv_ok ta (0, 0, 99995604, []) (n_v vs 2) := t2
  have k2 : 0 ≤ v_iv (n_v vs 2) ∧ v_iv (n_v vs 2) ≤ 99995604 := tv_rng t2
  obtain ⟨t3, hk⟩ := List.forall_mem_cons.mp hk
  have t3 : tv_ok ta (2, 0, 0, [150]) (n_v vs 3) := t3
  have r3 : ta (v_ad (n_v vs 3)) = some 150 := tv_rg t3
  obtain ⟨t4, hk⟩ := List.forall_mem_cons.mp hk
  have t4 : tv_ok ta (0, 5, 6, []) (n_v vs 4) := t4
  have k4 : 5 ≤ v_iv (n_v vs 4) ∧ v_iv (n_v vs 4) ≤ 6 := tv_rng t4
  obtain ⟨t5, hk⟩ := List.forall_mem_cons.mp hk
  have t5 : tv_ok ta (0, 6, 7, []) (n_v vs 5) := t5
  have k5 : 6 ≤ v_iv (n_v vs 5) ∧ v_iv (n_v vs 5) ≤ 7 := tv_rng t5
  obtain ⟨t6, hk⟩ := List.forall_mem_cons.mp hk
  have t6 : tv_ok ta (0, 7, 8, []) (n_v vs 6) := t6
  have k6 : 7 ≤ v_iv (n_v vs 6) ∧ v_iv (n_v vs 6) ≤ 8 := tv_rng t6
  obtain ⟨t7, hk⟩ := List.forall_mem_cons.mp hk
  have t7 : tv_ok ta (2, 0, 0, [152]) (n_v vs 7) := t7
  have r7 : ta (v_ad (n_v vs 7)) = some 152 := tv_rg t7
  obtain ⟨t8, hk⟩ := List.forall_mem_cons.mp hk
  have t8 : tv_ok ta (0, 0, 66297, []) (n_v vs 8) := t8
  have k8 : 0 ≤ v_iv (n_v vs 8) ∧ v_iv (n_v vs 8) ≤ 66297 := tv_rng t8
  obtain ⟨t9, hk⟩ := List.forall_mem_cons.mp hk
  have t9 : tv_ok ta (0, 531, 531, []) (n_v vs 9) := t9
  have k9 : 531 ≤ v_iv (n_v vs 9) ∧ v_iv (n_v vs 9) ≤ 531 := tv_rng t9
  obtain ⟨t10, hk⟩ := List.forall_mem_cons.mp hk
  have t10 : tv_ok ta (0, 531, 66828, []) (n_v vs 10) := t10
  have k10 : 531 ≤ v_iv (n_v vs 10) ∧ v_iv (n_v vs 10) ≤ 66828 := tv_rng t10
  obtain ⟨t11, hk⟩ := List.forall_mem_cons.mp hk
  have t11 : tv_ok ta (0, 537, 66835, []) (n_v vs 11) := t11
  have k11 : 537 ≤ v_iv (n_v vs 11) ∧ v_iv (n_v vs 11) ≤ 66835 := tv_rng t11
  obtain ⟨t12, hk⟩ := List.forall_mem_cons.mp hk
  have t12 : tv_ok ta (0, -1, 6, []) (n_v vs 12) := t12
  have k12 : (-1) ≤ v_iv (n_v vs 12) ∧ v_iv (n_v vs 12) ≤ 6 := tv_rng t12
  obtain ⟨t13, hk⟩ := List.forall_mem_cons.mp hk
  have t13 : tv_ok ta (0, 7, 8, []) (n_v vs 13) := t13
  have k13 : 7 ≤ v_iv (n_v vs 13) ∧ v_iv (n_v vs 13) ≤ 8 := tv_rng t13
  have hds : ∀ q ∈ ([(13, 5, 1, 1), (13, 6, -4294967296, 0), (13, 2, -4294967296, 9), (13, 4, -4294967296, 4), (11, 5, 531, 66828), (11, 6, -4294967296, 66827), (11, 2, -4294967296, 66836), (11, 4, -4294967296, 66831), (11, 10, 6, 7), (11, 8, 537, 538), (10, 8, 531, 531), (5, 6, -4294967296, -1), (4, 2, -4294967296, 7), (4, 5, -4294967296, -1), (5, 2, -4294967296, 8), (5, 4, -4294967296, 3)] : List of_T), n_iv vs q.2.1 + q.2.2.1 ≤ n_iv vs q.1 ∧ n_iv vs q.1 ≤ n_iv vs q.2.1 + q.2.2.2 := hds
  obtain ⟨d0, hds⟩ := List.forall_mem_cons.mp hds
  have d0 : v_iv (n_v vs 5) + 1 ≤ v_iv (n_v vs 13) ∧ v_iv (n_v vs 13) ≤ v_iv (n_v vs 5) + 1 := d0
  obtain ⟨d1, hds⟩ := List.forall_mem_cons.mp hds
  have d1 : v_iv (n_v vs 6) + (-4294967296) ≤ v_iv (n_v vs 13) ∧ v_iv (n_v vs 13) ≤ v_iv (n_v vs 6) + 0 := d1
  obtain ⟨d2, hds⟩ := List.forall_mem_cons.mp hds
  have d2 : v_iv (n_v vs 2) + (-4294967296) ≤ v_iv (n_v vs 13) ∧ v_iv (n_v vs 13) ≤ v_iv (n_v vs 2) + 9 := d2
  obtain ⟨d3, hds⟩ := List.forall_mem_cons.mp hds
  have d3 : v_iv (n_v vs 4) + (-4294967296) ≤ v_iv (n_v vs 13) ∧ v_iv (n_v vs 13) ≤ v_iv (n_v vs 4) + 4 := d3
  obtain ⟨d4, hds⟩ := List.forall_mem_cons.mp hds
  have d4 : v_iv (n_v vs 5) + 531 ≤ v_iv (n_v vs 11) ∧ v_iv (n_v vs 11) ≤ v_iv (n_v vs 5) + 66828 := d4
  obtain ⟨d5, hds⟩ := List.forall_mem_cons.mp hds
  have d5 : v_iv (n_v vs 6) + (-4294967296) ≤ v_iv (n_v vs 11) ∧ v_iv (n_v vs 11) ≤ v_iv (n_v vs 6) + 66827 := d5
  obtain ⟨d6, hds⟩ := List.forall_mem_cons.mp hds
  have d6 : v_iv (n_v vs 2) + (-4294967296) ≤ v_iv (n_v vs 11) ∧ v_iv (n_v vs 11) ≤ v_iv (n_v vs 2) + 66836 := d6
  obtain ⟨d7, hds⟩ := List.forall_mem_cons.mp hds
  have d7 : v_iv (n_v vs 4) + (-4294967296) ≤ v_iv (n_v vs 11) ∧ v_iv (n_v vs 11) ≤ v_iv (n_v vs 4) + 66831 := d7
  obtain ⟨d8, hds⟩ := List.forall_mem_cons.mp hds
  have d8 : v_iv (n_v vs 10) + 6 ≤ v_iv (n_v vs 11) ∧ v_iv (n_v vs 11) ≤ v_iv (n_v vs 10) + 7 := d8
  obtain ⟨d9, hds⟩ := List.forall_mem_cons.mp hds
  have d9 : v_iv (n_v vs 8) + 537 ≤ v_iv (n_v vs 11) ∧ v_iv (n_v vs 11) ≤ v_iv (n_v vs 8) + 538 := d9
  obtain ⟨d10, hds⟩ := List.forall_mem_cons.mp hds
  have d10 : v_iv (n_v vs 8) + 531 ≤ v_iv (n_v vs 10) ∧ v_iv (n_v vs 10) ≤ v_iv (n_v vs 8) + 531 := d10
  obtain ⟨d11, hds⟩ := List.forall_mem_cons.mp hds
  have d11 : v_iv (n_v vs 6) + (-4294967296) ≤ v_iv (n_v vs 5) ∧ v_iv (n_v vs 5) ≤ v_iv (n_v vs 6) + (-1) := d11
  obtain ⟨d12, hds⟩ := List.forall_mem_cons.mp hds
  have d12 : v_iv (n_v vs 2) + (-4294967296) ≤ v_iv (n_v vs 4) ∧ v_iv (n_v vs 4) ≤ v_iv (n_v vs 2) + 7 := d12
  obtain ⟨d13, hds⟩ := List.forall_mem_cons.mp hds
  have d13 : v_iv (n_v vs 5) + (-4294967296) ≤ v_iv (n_v vs 4) ∧ v_iv (n_v vs 4) ≤ v_iv (n_v vs 5) + (-1) := d13
  obtain ⟨d14, hds⟩ := List.forall_mem_cons.mp hds
  have d14 : v_iv (n_v vs 2) + (-4294967296) ≤ v_iv (n_v vs 5) ∧ v_iv (n_v vs 5) ≤ v_iv (n_v vs 2) + 8 := d14
  obtain ⟨d15, hds⟩ := List.forall_mem_cons.mp hds
  have d15 : v_iv (n_v vs 4) + (-4294967296) ≤ v_iv (n_v vs 5) ∧ v_iv (n_v vs 5) ≤ v_iv (n_v vs 4) + 3 := d15
  have hf : fc_ok [(6, [13, 5], [1]), (7, [12, 4], [1]), (10, [12, 7, 11], []), (1, [11, 10, 5], []), (1, [10, 8, 9], []), (9, [8, 3], [5]), (9, [7, 3], [2]), (7, [5, 6], [2]), (20, [6, 3], [30, 0, 1, 0, 0, -1, 3, 2005002]), (20, [6, 3], [30, 0, -1, 0, 0, 1, 3, 2005002]), (20, [3, 2, 5, 4], [30, -902, 1, 1, 170, -1, 0, 0, -1766, 0, 0, 1766, 0, 0]), (24, [0, 3], [])] ta ws vs := hf
  obtain ⟨f0, hf⟩ := fc_un (show (6 : Nat) < 100 from by decide) hf
  have f0 : v_iv (n_v vs 13) = v_iv (n_v vs 5) + 1 := f0
  obtain ⟨f1, hf⟩ := fc_un (show (7 : Nat) < 100 from by decide) hf
  have f1 : v_iv (n_v vs 12) ≠ v_iv (n_v vs 4) := f1
  obtain ⟨f2, hf⟩ := fc_un (show (10 : Nat) < 100 from by decide) hf
  have f2 : v_iv (n_v vs 12) = w_el ws (v_ad (n_v vs 7)) (v_iv (n_v vs 11)).toNat := f2
  obtain ⟨f3, hf⟩ := fc_un (show (1 : Nat) < 100 from by decide) hf
  have f3 : v_iv (n_v vs 11) = v_iv (n_v vs 10) + v_iv (n_v vs 5) := f3
  obtain ⟨f4, hf⟩ := fc_un (show (1 : Nat) < 100 from by decide) hf
  have f4 : v_iv (n_v vs 10) = v_iv (n_v vs 8) + v_iv (n_v vs 9) := f4
  obtain ⟨f5, hf⟩ := fc_un (show (9 : Nat) < 100 from by decide) hf
  have f5 : n_v vs 8 = w_fd ws (v_ad (n_v vs 3)) 5 := f5
  obtain ⟨f6, hf⟩ := fc_un (show (9 : Nat) < 100 from by decide) hf
  have f6 : n_v vs 7 = w_fd ws (v_ad (n_v vs 3)) 2 := f6
  obtain ⟨f7, hf⟩ := fc_un (show (7 : Nat) < 100 from by decide) hf
  have f7 : v_iv (n_v vs 5) < v_iv (n_v vs 6) := f7
  obtain ⟨f8, hf⟩ := fc_un (show (20 : Nat) < 100 from by decide) hf
  have f8 : 1 * v_iv (n_v vs 6) + ((-1) * w_el ws (w_ar ws (n_v vs 3) 2) (w_fi ws (n_v vs 3) 5 + 2).toNat + 0) ≤ 0 := f8
  obtain ⟨f9, hf⟩ := fc_un (show (20 : Nat) < 100 from by decide) hf
  have f9 : (-1) * v_iv (n_v vs 6) + (1 * w_el ws (w_ar ws (n_v vs 3) 2) (w_fi ws (n_v vs 3) 5 + 2).toNat + 0) ≤ 0 := f9
  obtain ⟨f10, hf⟩ := fc_un (show (20 : Nat) < 100 from by decide) hf
  have f10 : 1 * w_fi ws (n_v vs 3) 170 + ((-1) * v_iv (n_v vs 2) + ((-1766) * v_iv (n_v vs 5) + (1766 * v_iv (n_v vs 4) + 0))) ≤ (-902) := f10
  obtain ⟨f11, hf⟩ := fc_un (show (24 : Nat) < 100 from by decide) hf
  have f11 : n_v vs 0 = n_v vs 3 := f11
  have q3 : n_v vs 3 = n_v vs 0 := f11.symm
  rw [q3] at f5
  rw [q3] at f6
  rw [q3] at f8
  rw [q3] at f9
  rw [q3] at f10
  have cr_0_2 : ta (w_ar ws (n_v vs 0) 2) = some 152 := tv_rg (th_fd hD hth r0 (g := GG_150) rfl (k := 2) (t := (2, 0, 0, [152])) rfl rfl)
  have ad_7 : v_ad (n_v vs 7) = w_ar ws (n_v vs 0) 2 := congrArg v_ad f6
  rw [ad_7] at f2
  have g5 : v_iv (n_v vs 8) = w_fi ws (n_v vs 0) 5 := congrArg v_iv f5
  have cg2_F5_2 : v_iv (n_v vs 11) = w_fi ws (n_v vs 0) 5 + 2 → w_el ws (w_ar ws (n_v vs 0) 2) (v_iv (n_v vs 11)).toNat = w_el ws (w_ar ws (n_v vs 0) 2) (w_fi ws (n_v vs 0) 5 + 2).toNat := fun h => by rw [h]
  have kz_0_170 : 0 ≤ w_fi ws (n_v vs 0) 170 ∧ w_fi ws (n_v vs 0) 170 ≤ 100000000 := tv_rng (th_fd hD hth r0 (g := GG_150) rfl (k := 170) (t := (0, 0, 100000000, [])) rfl rfl)
  have nf0 : fc_1 (20, [3, 2, 13, 4], [30, -902, 1, 1, 170, -1, 0, 0, -1766, 0, 0, 1766, 0, 0]) ws (vs) := by
    refine ⟨fun n hn => ?_, ?_⟩
    · have hn : n ∈ [3, 2, 13, 4] := hn
      rw [hl]
      simp only [List.mem_cons, List.not_mem_nil, or_false] at hn
      show n < 14; omega
    · show 1 * w_fi ws (n_v vs 3) 170 + ((-1) * v_iv (n_v vs 2) + ((-1766) * v_iv (n_v vs 13) + (1766 * v_iv (n_v vs 4) + 0))) ≤ (-902)
      rw [q3]
      omega
  refine ⟨(fun _ h => (by cases h)), [], trivial, ?_, (fun _ h => (by cases h))⟩
  rw [List.append_nil]
  exact List.forall_mem_cons.mpr ⟨⟨show (20 : Nat) < 100 from by decide, nf0⟩, (fun _ h => (by cases h))⟩
def n_Mo_writeGroup_at_l5_an : List an_T := [(2, [(0, (2, 0, 0, [150])), (1, (0, 5, 7, [])), (2, (0, 0, 24, []))], [], (0, 0), [(0, 0, 99998), (1, 5, 24), (0, 0, 100000)], [(1, 2, -1000000000000, 7), (1, 4, -1000000000000, 0), (1, 5, -1000000000000, 7), (4, 1, -1000000000000, 0), (4, 2, -1000000000000, 7), (4, 5, -1000000000000, 7)], [], [(2, 0, 0, [150]), (0, 5, 7, []), (0, 0, 99995604, [])], 0, [], [(20, [3, 2, 5], [30, 0, 1, 1, 170, -1, 0, 0, -36, 0, 0]), (24, [0, 3], [])]), (83, [(0, (2, 0, 0, [150])), (1, (0, 5, 7, [])), (2, (0, 6, 8, []))], [], (0, 0), [(0, 0, 99917), (1, 5, 8), (0, 0, 100000)], [(1, 2, -1000000000000, 7), (1, 4, -1000000000000, 0), (1, 5, -1000000000000, -1), (4, 1, -1000000000000, 0), (4, 2, -1000000000000, 7), (4, 5, -1000000000000, -1), (5, 1, -1000000000000, 3), (5, 2, -1000000000000, 8), (5, 4, -1000000000000, 3)], [], [(2, 0, 0, [150]), (0, 5, 7, []), (0, 0, 99995604, [])], 0, [], [(20, [3, 2, 5, 4], [30, -902, 1, 1, 170, -1, 0, 0, -1766, 0, 0, 1766, 0, 0]), (24, [0, 3], [])])]
def t_Mo_writeGroup_at_l5_ct : ct_L := [(1, 475, e_Mo_nodes), (1, 509, e_Mo_groups), (1, 723, e_Mo_size), (1, 725, e_Mo_groupOf), (1, 1285, e_Mo_writeName), (1, 1293, e_Mo_writeNode), (1, 1298, e_Mo_writeNumber), (82, 1290, e_Mo_write_at_s5013), (145, 1290, e_Mo_write_at_s5014), (193, 1290, e_Mo_write_at_s5045), (214, 1290, e_Mo_write_at_s5015), (355, 1290, e_Mo_write_at_s5016), (472, 1290, e_Mo_write_at_s5017), (487, 1309, e_Mo_writeGroup_at_l6), (508, 1290, e_Mo_write_at_s5018), (1000001, 1288, en_ro [] (2, 0, 0, [5013])), (1000001, 1296, en_ro [] (2, 0, 0, [5014])), (1000001, 1301, en_ro [] (2, 0, 0, [5045])), (1000001, 1303, en_ro [] (2, 0, 0, [5015])), (1000001, 1305, en_ro [] (2, 0, 0, [5016])), (1000001, 1307, en_ro [] (2, 0, 0, [5017])), (1000001, 1312, en_ro [] (2, 0, 0, [5018]))]
set_option maxRecDepth 100000 in
theorem c_Mo_writeGroup_at_l5 {l : Launch} {D : va_G} {kA : Nat → ClassId} (h_Mo_groupOf : ct_ok l D kA GG y_Mo_groupOf z_Mo_groupOf e_Mo_groupOf) (h_Mo_groups : ct_ok l D kA GG y_Mo_groups z_Mo_groups e_Mo_groups) (h_Mo_nodes : ct_ok l D kA GG y_Mo_nodes z_Mo_nodes e_Mo_nodes) (h_Mo_size : ct_ok l D kA GG y_Mo_size z_Mo_size e_Mo_size) (h_Mo_writeGroup_at_l6 : ct_ok l D kA GG y_Mo_writeGroup_at_l6 z_Mo_writeGroup_at_l6 e_Mo_writeGroup_at_l6) (h_Mo_writeName : ct_ok l D kA GG y_Mo_writeName z_Mo_writeName e_Mo_writeName) (h_Mo_writeNode : ct_ok l D kA GG y_Mo_writeNode z_Mo_writeNode e_Mo_writeNode) (h_Mo_writeNumber : ct_ok l D kA GG y_Mo_writeNumber z_Mo_writeNumber e_Mo_writeNumber) (h_Mo_write_at_s5013 : ct_ok l D kA GG y_Mo_write_at_s5013 z_Mo_write_at_s5013 e_Mo_write_at_s5013) (h_Mo_write_at_s5014 : ct_ok l D kA GG y_Mo_write_at_s5014 z_Mo_write_at_s5014 e_Mo_write_at_s5014) (h_Mo_write_at_s5015 : ct_ok l D kA GG y_Mo_write_at_s5015 z_Mo_write_at_s5015 e_Mo_write_at_s5015) (h_Mo_write_at_s5016 : ct_ok l D kA GG y_Mo_write_at_s5016 z_Mo_write_at_s5016 e_Mo_write_at_s5016) (h_Mo_write_at_s5017 : ct_ok l D kA GG y_Mo_write_at_s5017 z_Mo_write_at_s5017 e_Mo_write_at_s5017) (h_Mo_write_at_s5018 : ct_ok l D kA GG y_Mo_write_at_s5018 z_Mo_write_at_s5018 e_Mo_write_at_s5018) (h_Mo_write_at_s5045 : ct_ok l D kA GG y_Mo_write_at_s5045 z_Mo_write_at_s5045 e_Mo_write_at_s5045) : ct_ok l D kA GG y_Mo_writeGroup_at_l5 z_Mo_writeGroup_at_l5 e_Mo_writeGroup_at_l5 := chk_all_ok (FT := [(16, 13, 2), (391, 13, 5)]) (PT := []) (CT := t_Mo_writeGroup_at_l5_ct) (KT := []) (NT := []) (AN := n_Mo_writeGroup_at_l5_an) (OT := [o_Mo_writeGroup_at_l5_0, o_Mo_writeGroup_at_l5_1, o_Mo_writeGroup_at_l5_2, o_Mo_writeGroup_at_l5_3, o_Mo_writeGroup_at_l5_4, o_Mo_writeGroup_at_l5_5, o_Mo_writeGroup_at_l5_6, o_Mo_writeGroup_at_l5_7, o_Mo_writeGroup_at_l5_8, o_Mo_writeGroup_at_l5_9, o_Mo_writeGroup_at_l5_10, o_Mo_writeGroup_at_l5_11, o_Mo_writeGroup_at_l5_12, o_Mo_writeGroup_at_l5_13, o_Mo_writeGroup_at_l5_14, o_Mo_writeGroup_at_l5_15, o_Mo_writeGroup_at_l5_16, o_Mo_writeGroup_at_l5_17, o_Mo_writeGroup_at_l5_18, o_Mo_writeGroup_at_l5_19]) 3 408 (List.forall_mem_cons.mpr ⟨oo_Mo_writeGroup_at_l5_0, List.forall_mem_cons.mpr ⟨oo_Mo_writeGroup_at_l5_1, List.forall_mem_cons.mpr ⟨oo_Mo_writeGroup_at_l5_2, List.forall_mem_cons.mpr ⟨oo_Mo_writeGroup_at_l5_3, List.forall_mem_cons.mpr ⟨oo_Mo_writeGroup_at_l5_4, List.forall_mem_cons.mpr ⟨oo_Mo_writeGroup_at_l5_5, List.forall_mem_cons.mpr ⟨oo_Mo_writeGroup_at_l5_6, List.forall_mem_cons.mpr ⟨oo_Mo_writeGroup_at_l5_7, List.forall_mem_cons.mpr ⟨oo_Mo_writeGroup_at_l5_8, List.forall_mem_cons.mpr ⟨oo_Mo_writeGroup_at_l5_9, List.forall_mem_cons.mpr ⟨oo_Mo_writeGroup_at_l5_10, List.forall_mem_cons.mpr ⟨oo_Mo_writeGroup_at_l5_11, List.forall_mem_cons.mpr ⟨oo_Mo_writeGroup_at_l5_12, List.forall_mem_cons.mpr ⟨oo_Mo_writeGroup_at_l5_13, List.forall_mem_cons.mpr ⟨oo_Mo_writeGroup_at_l5_14, List.forall_mem_cons.mpr ⟨oo_Mo_writeGroup_at_l5_15, List.forall_mem_cons.mpr ⟨oo_Mo_writeGroup_at_l5_16, List.forall_mem_cons.mpr ⟨oo_Mo_writeGroup_at_l5_17, List.forall_mem_cons.mpr ⟨oo_Mo_writeGroup_at_l5_18, List.forall_mem_cons.mpr ⟨oo_Mo_writeGroup_at_l5_19, List.forall_mem_nil _⟩⟩⟩⟩⟩⟩⟩⟩⟩⟩⟩⟩⟩⟩⟩⟩⟩⟩⟩⟩) (by decide +kernel) ⟨List.forall_mem_cons.mpr ⟨gf_Mo_16, List.forall_mem_cons.mpr ⟨gf_Mo_391, List.forall_mem_nil _⟩⟩, List.forall_mem_nil _, List.forall_mem_cons.mpr ⟨cl_virtual (y := y_Mo_nodes) (ci := 13) rfl rfl ⟨_, _, rfl⟩ (by decide +kernel) h_Mo_nodes wm_3025 wm_9 wm_3022 wm_3024 wv_13_3 ⟨by decide, by decide, by decide +kernel⟩ (by decide), List.forall_mem_cons.mpr ⟨cl_virtual (y := y_Mo_groups) (ci := 13) rfl rfl ⟨_, _, rfl⟩ (by decide +kernel) h_Mo_groups wm_3070 wm_9 wm_3067 wm_3069 wv_13_14 ⟨by decide, by decide, by decide +kernel⟩ (by decide), List.forall_mem_cons.mpr ⟨cl_virtual (y := y_Mo_size) (ci := 13) rfl rfl ⟨_, _, rfl⟩ (by decide +kernel) h_Mo_size wm_3307 wm_9 wm_3304 wm_3306 wv_17_0 ⟨by decide, by decide, by decide +kernel⟩ (by decide), List.forall_mem_cons.mpr ⟨cl_virtual (y := y_Mo_groupOf) (ci := 13) rfl rfl ⟨_, _, rfl⟩ (by decide +kernel) h_Mo_groupOf wm_3311 wm_9 wm_3308 wm_3310 wv_17_1 ⟨by decide, by decide, by decide +kernel⟩ (by decide), List.forall_mem_cons.mpr ⟨cl_virtual (y := y_Mo_writeName) (ci := 13) rfl rfl ⟨_, _, rfl⟩ (by decide +kernel) h_Mo_writeName wm_3922 wm_9 wm_3919 wm_3921 wv_24_10 ⟨by decide, by decide, by decide +kernel⟩ (by decide), List.forall_mem_cons.mpr ⟨cl_virtual (y := y_Mo_writeNode) (ci := 13) rfl rfl ⟨_, _, rfl⟩ (by decide +kernel) h_Mo_writeNode wm_3918 wm_9 wm_3915 wm_3917 wv_24_9 ⟨by decide, by decide, by decide +kernel⟩ (by decide), List.forall_mem_cons.mpr ⟨cl_virtual (y := y_Mo_writeNumber) (ci := 13) rfl rfl ⟨_, _, rfl⟩ (by decide +kernel) h_Mo_writeNumber wm_3927 wm_9 wm_3924 wm_3926 wv_24_11 ⟨by decide, by decide, by decide +kernel⟩ (by decide), List.forall_mem_cons.mpr ⟨cl_virtual (y := y_Mo_write_at_s5013) (ci := 13) rfl rfl ⟨_, _, rfl⟩ (by decide +kernel) h_Mo_write_at_s5013 wm_3910 wm_9 wm_3907 wm_3909 wv_24_7 ⟨by decide, by decide, by decide +kernel⟩ (by decide), List.forall_mem_cons.mpr ⟨cl_virtual (y := y_Mo_write_at_s5014) (ci := 13) rfl rfl ⟨_, _, rfl⟩ (by decide +kernel) h_Mo_write_at_s5014 wm_3910 wm_9 wm_3907 wm_3909 wv_24_7 ⟨by decide, by decide, by decide +kernel⟩ (by decide), List.forall_mem_cons.mpr ⟨cl_virtual (y := y_Mo_write_at_s5045) (ci := 13) rfl rfl ⟨_, _, rfl⟩ (by decide +kernel) h_Mo_write_at_s5045 wm_3910 wm_9 wm_3907 wm_3909 wv_24_7 ⟨by decide, by decide, by decide +kernel⟩ (by decide), List.forall_mem_cons.mpr ⟨cl_virtual (y := y_Mo_write_at_s5015) (ci := 13) rfl rfl ⟨_, _, rfl⟩ (by decide +kernel) h_Mo_write_at_s5015 wm_3910 wm_9 wm_3907 wm_3909 wv_24_7 ⟨by decide, by decide, by decide +kernel⟩ (by decide), List.forall_mem_cons.mpr ⟨cl_virtual (y := y_Mo_write_at_s5016) (ci := 13) rfl rfl ⟨_, _, rfl⟩ (by decide +kernel) h_Mo_write_at_s5016 wm_3910 wm_9 wm_3907 wm_3909 wv_24_7 ⟨by decide, by decide, by decide +kernel⟩ (by decide), List.forall_mem_cons.mpr ⟨cl_virtual (y := y_Mo_write_at_s5017) (ci := 13) rfl rfl ⟨_, _, rfl⟩ (by decide +kernel) h_Mo_write_at_s5017 wm_3910 wm_9 wm_3907 wm_3909 wv_24_7 ⟨by decide, by decide, by decide +kernel⟩ (by decide), List.forall_mem_cons.mpr ⟨cl_virtual (y := y_Mo_writeGroup_at_l6) (ci := 13) rfl rfl ⟨_, _, rfl⟩ (by decide +kernel) h_Mo_writeGroup_at_l6 wm_3905 wm_9 wm_3902 wm_3904 wv_24_6 ⟨by decide, by decide, by decide +kernel⟩ (by decide), List.forall_mem_cons.mpr ⟨cl_virtual (y := y_Mo_write_at_s5018) (ci := 13) rfl rfl ⟨_, _, rfl⟩ (by decide +kernel) h_Mo_write_at_s5018 wm_3910 wm_9 wm_3907 wm_3909 wv_24_7 ⟨by decide, by decide, by decide +kernel⟩ (by decide), List.forall_mem_cons.mpr ⟨cl_ldcw (own := "DrawingHouseModel") (idx := 1288) (i := 13) (tx := "node ") (by decide +kernel) (by decide +kernel) (by decide +kernel), List.forall_mem_cons.mpr ⟨cl_ldcw (own := "DrawingHouseModel") (idx := 1296) (i := 14) (tx := " [size=") (by decide +kernel) (by decide +kernel) (by decide +kernel), List.forall_mem_cons.mpr ⟨cl_ldcw (own := "DrawingHouseModel") (idx := 1301) (i := 45) (tx := "]") (by decide +kernel) (by decide +kernel) (by decide +kernel), List.forall_mem_cons.mpr ⟨cl_ldcw (own := "DrawingHouseModel") (idx := 1303) (i := 15) (tx := ";\n") (by decide +kernel) (by decide +kernel) (by decide +kernel), List.forall_mem_cons.mpr ⟨cl_ldcw (own := "DrawingHouseModel") (idx := 1305) (i := 16) (tx := "group ") (by decide +kernel) (by decide +kernel) (by decide +kernel), List.forall_mem_cons.mpr ⟨cl_ldcw (own := "DrawingHouseModel") (idx := 1307) (i := 17) (tx := " {\n") (by decide +kernel) (by decide +kernel) (by decide +kernel), List.forall_mem_cons.mpr ⟨cl_ldcw (own := "DrawingHouseModel") (idx := 1312) (i := 18) (tx := "}\n") (by decide +kernel) (by decide +kernel) (by decide +kernel), List.forall_mem_nil _⟩⟩⟩⟩⟩⟩⟩⟩⟩⟩⟩⟩⟩⟩⟩⟩⟩⟩⟩⟩⟩⟩, List.forall_mem_nil _, List.forall_mem_nil _, GG_pl⟩ (by decide +kernel)
