def o_Mo_known_0 : or_T := (35, 9, [(0, (2, 0, 0, [150])), (1, (0, 0, 23, [])), (2, (0, 1, 24, [])), (3, (0, 0, 8, [])), (4, (0, 0, 2000, [])), (5, (0, 0, 2000, [])), (6, (0, -2000, 2000, [])), (7, (0, 0, 0, []))], [(7, [3, 6], [1]), (2, [6, 4, 5], []), (9, [5, 0], [15]), (9, [4, 0], [11]), (7, [1, 2], [2]), (20, [2, 0], [30, 0, 1, 0, 0, -1, 3, 2005000]), (20, [2, 0], [30, 0, -1, 0, 0, 1, 3, 2005000])], [], [], [(20, [0, 0, 7], [30, 2008, 1, 1, 11, -1, 1, 15, 2000, 0, 0])], [], [(6, 4, -2000, 0), (1, 2, -4294967296, -1)])
theorem oo_Mo_known_0 {kA : Nat → ClassId} : or_ok kA GG o_Mo_known_0 := by
  intro A ta ws vs hD hth hl hk hds hf
  have hl : vs.length = 9 := hl
  have hk : ∀ q ∈ ([(0, (2, 0, 0, [150])), (1, (0, 0, 23, [])), (2, (0, 1, 24, [])), (3, (0, 0, 8, [])), (4, (0, 0, 2000, [])), (5, (0, 0, 2000, [])), (6, (0, -2000, 2000, [])), (7, (0, 0, 0, []))] : List (Nat × tv_T)), tv_ok ta q.2 (n_v vs q.1) := hk
  obtain ⟨t0, hk⟩ := List.forall_mem_cons.mp hk
  have t0 : tv_ok ta (2, 0, 0, [150]) (n_v vs 0) := t0
  have r0 : ta (v_ad (n_v vs 0)) = some 150 := tv_rg t0
  obtain ⟨t1, hk⟩ := List.forall_mem_cons.mp hk
  have t1 : tv_ok ta (0, 0, 23, []) (n_v vs 1) := t1
  have k1 : 0 ≤ v_iv (n_v vs 1) ∧ v_iv (n_v vs 1) ≤ 23 := tv_rng t1
  obtain ⟨t2, hk⟩ := List.forall_mem_cons.mp hk
  have t2 : tv_ok ta (0, 1, 24, []) (n_v vs 2) := t2
  have k2 : 1 ≤ v_iv (n_v vs 2) ∧ v_iv (n_v vs 2) ≤ 24 := tv_rng t2
  obtain ⟨t3, hk⟩ := List.forall_mem_cons.mp hk
  have t3 : tv_ok ta (0, 0, 8, []) (n_v vs 3) := t3
  have k3 : 0 ≤ v_iv (n_v vs 3) ∧ v_iv (n_v vs 3) ≤ 8 := tv_rng t3
  obtain ⟨t4, hk⟩ := List.forall_mem_cons.mp hk
  have t4 : tv_ok ta (0, 0, 2000, []) (n_v vs 4) := t4
  have k4 : 0 ≤ v_iv (n_v vs 4) ∧ v_iv (n_v vs 4) ≤ 2000 := tv_rng t4
  obtain ⟨t5, hk⟩ := List.forall_mem_cons.mp hk
  have t5 : tv_ok ta (0, 0, 2000, []) (n_v vs 5) := t5
  have k5 : 0 ≤ v_iv (n_v vs 5) ∧ v_iv (n_v vs 5) ≤ 2000 := tv_rng t5
  obtain ⟨t6, hk⟩ := List.forall_mem_cons.mp hk
  have t6 : tv_ok ta (0, -2000, 2000, []) (n_v vs 6) := t6
  have k6 : (-2000) ≤ v_iv (n_v vs 6) ∧ v_iv (n_v vs 6) ≤ 2000 := tv_rng t6
  obtain ⟨t7, hk⟩ := List.forall_mem_cons.mp hk
  have t7 : tv_ok ta (0, 0, 0, []) (n_v vs 7) := t7
  have k7 : 0 ≤ v_iv (n_v vs 7) ∧ v_iv (n_v vs 7) ≤ 0 := tv_rng t7
  have hds : ∀ q ∈ ([(6, 4, -2000, 0), (1, 2, -4294967296, -1)] : List of_T), n_iv vs q.2.1 + q.2.2.1 ≤ n_iv vs q.1 ∧ n_iv vs q.1 ≤ n_iv vs q.2.1 + q.2.2.2 := hds
  obtain ⟨d0, hds⟩ := List.forall_mem_cons.mp hds
  have d0 : v_iv (n_v vs 4) + (-2000) ≤ v_iv (n_v vs 6) ∧ v_iv (n_v vs 6) ≤ v_iv (n_v vs 4) + 0 := d0
  obtain ⟨d1, hds⟩ := List.forall_mem_cons.mp hds
  have d1 : v_iv (n_v vs 2) + (-4294967296) ≤ v_iv (n_v vs 1) ∧ v_iv (n_v vs 1) ≤ v_iv (n_v vs 2) + (-1) := d1
  have hf : fc_ok [(7, [3, 6], [1]), (2, [6, 4, 5], []), (9, [5, 0], [15]), (9, [4, 0], [11]), (7, [1, 2], [2]), (20, [2, 0], [30, 0, 1, 0, 0, -1, 3, 2005000]), (20, [2, 0], [30, 0, -1, 0, 0, 1, 3, 2005000])] ta ws vs := hf
  obtain ⟨f0, hf⟩ := fc_un (show (7 : Nat) < 100 from by decide) hf
  have f0 : v_iv (n_v vs 3) ≠ v_iv (n_v vs 6) := f0
  obtain ⟨f1, hf⟩ := fc_un (show (2 : Nat) < 100 from by decide) hf
  have f1 : v_iv (n_v vs 6) = v_iv (n_v vs 4) - v_iv (n_v vs 5) := f1
  obtain ⟨f2, hf⟩ := fc_un (show (9 : Nat) < 100 from by decide) hf
  have f2 : n_v vs 5 = w_fd ws (v_ad (n_v vs 0)) 15 := f2
  obtain ⟨f3, hf⟩ := fc_un (show (9 : Nat) < 100 from by decide) hf
  have f3 : n_v vs 4 = w_fd ws (v_ad (n_v vs 0)) 11 := f3
  obtain ⟨f4, hf⟩ := fc_un (show (7 : Nat) < 100 from by decide) hf
  have f4 : v_iv (n_v vs 1) < v_iv (n_v vs 2) := f4
  obtain ⟨f5, hf⟩ := fc_un (show (20 : Nat) < 100 from by decide) hf
  have f5 : 1 * v_iv (n_v vs 2) + ((-1) * w_el ws (w_ar ws (n_v vs 0) 2) (w_fi ws (n_v vs 0) 5 + 0).toNat + 0) ≤ 0 := f5
  obtain ⟨f6, hf⟩ := fc_un (show (20 : Nat) < 100 from by decide) hf
  have f6 : (-1) * v_iv (n_v vs 2) + (1 * w_el ws (w_ar ws (n_v vs 0) 2) (w_fi ws (n_v vs 0) 5 + 0).toNat + 0) ≤ 0 := f6
  have cr_0_2 : ta (w_ar ws (n_v vs 0) 2) = some 152 := tv_rg (th_fd hD hth r0 (g := GG_150) rfl (k := 2) (t := (2, 0, 0, [152])) rfl rfl)
  have g2 : v_iv (n_v vs 5) = w_fi ws (n_v vs 0) 15 := congrArg v_iv f2
  have g3 : v_iv (n_v vs 4) = w_fi ws (n_v vs 0) 11 := congrArg v_iv f3
  have kz_0_11 : 0 ≤ w_fi ws (n_v vs 0) 11 ∧ w_fi ws (n_v vs 0) 11 ≤ 2000 := tv_rng (th_fd hD hth r0 (g := GG_150) rfl (k := 11) (t := (0, 0, 2000, [])) rfl rfl)
  have kz_0_15 : 0 ≤ w_fi ws (n_v vs 0) 15 ∧ w_fi ws (n_v vs 0) 15 ≤ 2000 := tv_rng (th_fd hD hth r0 (g := GG_150) rfl (k := 15) (t := (0, 0, 2000, [])) rfl rfl)
  have nf0 : fc_1 (20, [0, 0, 7], [30, 2008, 1, 1, 11, -1, 1, 15, 2000, 0, 0]) ws (vs) := by
    refine ⟨fun n hn => ?_, ?_⟩
    · have hn : n ∈ [0, 0, 7] := hn
      rw [hl]
      simp only [List.mem_cons, List.not_mem_nil, or_false] at hn
      show n < 9; omega
    · show 1 * w_fi ws (n_v vs 0) 11 + ((-1) * w_fi ws (n_v vs 0) 15 + (2000 * v_iv (n_v vs 7) + 0)) ≤ 2008
      omega
  refine ⟨(fun _ h => (by cases h)), [], trivial, ?_, (fun _ h => (by cases h))⟩
  rw [List.append_nil]
  exact List.forall_mem_cons.mpr ⟨⟨show (20 : Nat) < 100 from by decide, nf0⟩, (fun _ h => (by cases h))⟩
def o_Mo_known_1 : or_T := (35, 9, [(0, (2, 0, 0, [150])), (1, (0, 0, 23, [])), (2, (0, 1, 24, [])), (3, (0, 0, 8, [])), (4, (0, 0, 2000, [])), (5, (0, 0, 2000, [])), (6, (0, 0, 8, [])), (7, (0, 1, 1, []))], [(7, [3, 6], [0]), (2, [6, 4, 5], []), (9, [5, 0], [15]), (9, [4, 0], [11]), (7, [1, 2], [2]), (20, [2, 0], [30, 0, 1, 0, 0, -1, 3, 2005000]), (20, [2, 0], [30, 0, -1, 0, 0, 1, 3, 2005000])], [], [], [(20, [0, 0, 7], [30, 2008, 1, 1, 11, -1, 1, 15, 2000, 0, 0])], [], [(3, 6, 0, 0), (6, 4, -2000, 0), (1, 2, -4294967296, -1)])
theorem oo_Mo_known_1 {kA : Nat → ClassId} : or_ok kA GG o_Mo_known_1 := by
  intro A ta ws vs hD hth hl hk hds hf
  have hl : vs.length = 9 := hl
  have hk : ∀ q ∈ ([(0, (2, 0, 0, [150])), (1, (0, 0, 23, [])), (2, (0, 1, 24, [])), (3, (0, 0, 8, [])), (4, (0, 0, 2000, [])), (5, (0, 0, 2000, [])), (6, (0, 0, 8, [])), (7, (0, 1, 1, []))] : List (Nat × tv_T)), tv_ok ta q.2 (n_v vs q.1) := hk
  obtain ⟨t0, hk⟩ := List.forall_mem_cons.mp hk
  have t0 : tv_ok ta (2, 0, 0, [150]) (n_v vs 0) := t0
  have r0 : ta (v_ad (n_v vs 0)) = some 150 := tv_rg t0
  obtain ⟨t1, hk⟩ := List.forall_mem_cons.mp hk
  have t1 : tv_ok ta (0, 0, 23, []) (n_v vs 1) := t1
  have k1 : 0 ≤ v_iv (n_v vs 1) ∧ v_iv (n_v vs 1) ≤ 23 := tv_rng t1
  obtain ⟨t2, hk⟩ := List.forall_mem_cons.mp hk
  have t2 : tv_ok ta (0, 1, 24, []) (n_v vs 2) := t2
  have k2 : 1 ≤ v_iv (n_v vs 2) ∧ v_iv (n_v vs 2) ≤ 24 := tv_rng t2
  obtain ⟨t3, hk⟩ := List.forall_mem_cons.mp hk
  have t3 : tv_ok ta (0, 0, 8, []) (n_v vs 3) := t3
  have k3 : 0 ≤ v_iv (n_v vs 3) ∧ v_iv (n_v vs 3) ≤ 8 := tv_rng t3
  obtain ⟨t4, hk⟩ := List.forall_mem_cons.mp hk
  have t4 : tv_ok ta (0, 0, 2000, []) (n_v vs 4) := t4
  have k4 : 0 ≤ v_iv (n_v vs 4) ∧ v_iv (n_v vs 4) ≤ 2000 := tv_rng t4
  obtain ⟨t5, hk⟩ := List.forall_mem_cons.mp hk
  have t5 : tv_ok ta (0, 0, 2000, []) (n_v vs 5) := t5
  have k5 : 0 ≤ v_iv (n_v vs 5) ∧ v_iv (n_v vs 5) ≤ 2000 := tv_rng t5
  obtain ⟨t6, hk⟩ := List.forall_mem_cons.mp hk
  have t6 : tv_ok ta (0, 0, 8, []) (n_v vs 6) := t6
  have k6 : 0 ≤ v_iv (n_v vs 6) ∧ v_iv (n_v vs 6) ≤ 8 := tv_rng t6
  obtain ⟨t7, hk⟩ := List.forall_mem_cons.mp hk
  have t7 : tv_ok ta (0, 1, 1, []) (n_v vs 7) := t7
  have k7 : 1 ≤ v_iv (n_v vs 7) ∧ v_iv (n_v vs 7) ≤ 1 := tv_rng t7
  have hds : ∀ q ∈ ([(3, 6, 0, 0), (6, 4, -2000, 0), (1, 2, -4294967296, -1)] : List of_T), n_iv vs q.2.1 + q.2.2.1 ≤ n_iv vs q.1 ∧ n_iv vs q.1 ≤ n_iv vs q.2.1 + q.2.2.2 := hds
  obtain ⟨d0, hds⟩ := List.forall_mem_cons.mp hds
  have d0 : v_iv (n_v vs 6) + 0 ≤ v_iv (n_v vs 3) ∧ v_iv (n_v vs 3) ≤ v_iv (n_v vs 6) + 0 := d0
  obtain ⟨d1, hds⟩ := List.forall_mem_cons.mp hds
  have d1 : v_iv (n_v vs 4) + (-2000) ≤ v_iv (n_v vs 6) ∧ v_iv (n_v vs 6) ≤ v_iv (n_v vs 4) + 0 := d1
  obtain ⟨d2, hds⟩ := List.forall_mem_cons.mp hds
  have d2 : v_iv (n_v vs 2) + (-4294967296) ≤ v_iv (n_v vs 1) ∧ v_iv (n_v vs 1) ≤ v_iv (n_v vs 2) + (-1) := d2
  have hf : fc_ok [(7, [3, 6], [0]), (2, [6, 4, 5], []), (9, [5, 0], [15]), (9, [4, 0], [11]), (7, [1, 2], [2]), (20, [2, 0], [30, 0, 1, 0, 0, -1, 3, 2005000]), (20, [2, 0], [30, 0, -1, 0, 0, 1, 3, 2005000])] ta ws vs := hf
  obtain ⟨f0, hf⟩ := fc_un (show (7 : Nat) < 100 from by decide) hf
  have f0 : v_iv (n_v vs 3) = v_iv (n_v vs 6) := f0
  obtain ⟨f1, hf⟩ := fc_un (show (2 : Nat) < 100 from by decide) hf
  have f1 : v_iv (n_v vs 6) = v_iv (n_v vs 4) - v_iv (n_v vs 5) := f1
  obtain ⟨f2, hf⟩ := fc_un (show (9 : Nat) < 100 from by decide) hf
  have f2 : n_v vs 5 = w_fd ws (v_ad (n_v vs 0)) 15 := f2
  obtain ⟨f3, hf⟩ := fc_un (show (9 : Nat) < 100 from by decide) hf
  have f3 : n_v vs 4 = w_fd ws (v_ad (n_v vs 0)) 11 := f3
  obtain ⟨f4, hf⟩ := fc_un (show (7 : Nat) < 100 from by decide) hf
  have f4 : v_iv (n_v vs 1) < v_iv (n_v vs 2) := f4
  obtain ⟨f5, hf⟩ := fc_un (show (20 : Nat) < 100 from by decide) hf
  have f5 : 1 * v_iv (n_v vs 2) + ((-1) * w_el ws (w_ar ws (n_v vs 0) 2) (w_fi ws (n_v vs 0) 5 + 0).toNat + 0) ≤ 0 := f5
  obtain ⟨f6, hf⟩ := fc_un (show (20 : Nat) < 100 from by decide) hf
  have f6 : (-1) * v_iv (n_v vs 2) + (1 * w_el ws (w_ar ws (n_v vs 0) 2) (w_fi ws (n_v vs 0) 5 + 0).toNat + 0) ≤ 0 := f6
  have cr_0_2 : ta (w_ar ws (n_v vs 0) 2) = some 152 := tv_rg (th_fd hD hth r0 (g := GG_150) rfl (k := 2) (t := (2, 0, 0, [152])) rfl rfl)
  have g2 : v_iv (n_v vs 5) = w_fi ws (n_v vs 0) 15 := congrArg v_iv f2
  have g3 : v_iv (n_v vs 4) = w_fi ws (n_v vs 0) 11 := congrArg v_iv f3
  have kz_0_11 : 0 ≤ w_fi ws (n_v vs 0) 11 ∧ w_fi ws (n_v vs 0) 11 ≤ 2000 := tv_rng (th_fd hD hth r0 (g := GG_150) rfl (k := 11) (t := (0, 0, 2000, [])) rfl rfl)
  have kz_0_15 : 0 ≤ w_fi ws (n_v vs 0) 15 ∧ w_fi ws (n_v vs 0) 15 ≤ 2000 := tv_rng (th_fd hD hth r0 (g := GG_150) rfl (k := 15) (t := (0, 0, 2000, [])) rfl rfl)
  have nf0 : fc_1 (20, [0, 0, 7], [30, 2008, 1, 1, 11, -1, 1, 15, 2000, 0, 0]) ws (vs) := by
    refine ⟨fun n hn => ?_, ?_⟩
    · have hn : n ∈ [0, 0, 7] := hn
      rw [hl]
      simp only [List.mem_cons, List.not_mem_nil, or_false] at hn
      show n < 9; omega
    · show 1 * w_fi ws (n_v vs 0) 11 + ((-1) * w_fi ws (n_v vs 0) 15 + (2000 * v_iv (n_v vs 7) + 0)) ≤ 2008
      omega
  refine ⟨(fun _ h => (by cases h)), [], trivial, ?_, (fun _ h => (by cases h))⟩
  rw [List.append_nil]
  exact List.forall_mem_cons.mpr ⟨⟨show (20 : Nat) < 100 from by decide, nf0⟩, (fun _ h => (by cases h))⟩
def o_Mo_known_2 : or_T := (68, 14, [(0, (2, 0, 0, [150])), (2, (0, 1, 1, [])), (3, (0, 0, 8, [])), (4, (0, 1, 2000, [])), (5, (0, 0, 2000, [])), (6, (0, 1, 2000, []))], [(8, [2], [1]), (7, [3, 6], [2]), (2, [6, 4, 5], []), (9, [5, 0], [15]), (9, [4, 0], [11]), (20, [0, 0, 2], [30, 2008, 1, 1, 11, -1, 1, 15, 2000, 0, 0])], [(3, (0, 0, 7, []))], [], [], [], [(3, 6, -4294967296, -1), (6, 4, -2000, 0), (2, 3, -4294967296, 1)])
theorem oo_Mo_known_2 {kA : Nat → ClassId} : or_ok kA GG o_Mo_known_2 := by
  intro A ta ws vs hD hth hl hk hds hf
  have hl : vs.length = 14 := hl
  have hk : ∀ q ∈ ([(0, (2, 0, 0, [150])), (2, (0, 1, 1, [])), (3, (0, 0, 8, [])), (4, (0, 1, 2000, [])), (5, (0, 0, 2000, [])), (6, (0, 1, 2000, []))] : List (Nat × tv_T)), tv_ok ta q.2 (n_v vs q.1) := hk
  obtain ⟨t0, hk⟩ := List.forall_mem_cons.mp hk
  have t0 : tv_ok ta (2, 0, 0, [150]) (n_v vs 0) := t0
  have r0 : ta (v_ad (n_v vs 0)) = some 150 := tv_rg t0
  obtain ⟨t2, hk⟩ := List.forall_mem_cons.mp hk
  have t2 : tv_ok ta (0, 1, 1, []) (n_v vs 2) := t2
  have k2 : 1 ≤ v_iv (n_v vs 2) ∧ v_iv (n_v vs 2) ≤ 1 := tv_rng t2
  obtain ⟨t3, hk⟩ := List.forall_mem_cons.mp hk
  have t3 : tv_ok ta (0, 0, 8, []) (n_v vs 3) := t3
  have k3 : 0 ≤ v_iv (n_v vs 3) ∧ v_iv (n_v vs 3) ≤ 8 := tv_rng t3
  obtain ⟨t4, hk⟩ := List.forall_mem_cons.mp hk
  have t4 : tv_ok ta (0, 1, 2000, []) (n_v vs 4) := t4
  have k4 : 1 ≤ v_iv (n_v vs 4) ∧ v_iv (n_v vs 4) ≤ 2000 := tv_rng t4
  obtain ⟨t5, hk⟩ := List.forall_mem_cons.mp hk
  have t5 : tv_ok ta (0, 0, 2000, []) (n_v vs 5) := t5
  have k5 : 0 ≤ v_iv (n_v vs 5) ∧ v_iv (n_v vs 5) ≤ 2000 := tv_rng t5
  obtain ⟨t6, hk⟩ := List.forall_mem_cons.mp hk
  have t6 : tv_ok ta (0, 1, 2000, []) (n_v vs 6) := t6
  have k6 : 1 ≤ v_iv (n_v vs 6) ∧ v_iv (n_v vs 6) ≤ 2000 := tv_rng t6
  have hds : ∀ q ∈ ([(3, 6, -4294967296, -1), (6, 4, -2000, 0), (2, 3, -4294967296, 1)] : List of_T), n_iv vs q.2.1 + q.2.2.1 ≤ n_iv vs q.1 ∧ n_iv vs q.1 ≤ n_iv vs q.2.1 + q.2.2.2 := hds
  obtain ⟨d0, hds⟩ := List.forall_mem_cons.mp hds
  have d0 : v_iv (n_v vs 6) + (-4294967296) ≤ v_iv (n_v vs 3) ∧ v_iv (n_v vs 3) ≤ v_iv (n_v vs 6) + (-1) := d0
  obtain ⟨d1, hds⟩ := List.forall_mem_cons.mp hds
  have d1 : v_iv (n_v vs 4) + (-2000) ≤ v_iv (n_v vs 6) ∧ v_iv (n_v vs 6) ≤ v_iv (n_v vs 4) + 0 := d1
  obtain ⟨d2, hds⟩ := List.forall_mem_cons.mp hds
  have d2 : v_iv (n_v vs 3) + (-4294967296) ≤ v_iv (n_v vs 2) ∧ v_iv (n_v vs 2) ≤ v_iv (n_v vs 3) + 1 := d2
  have hf : fc_ok [(8, [2], [1]), (7, [3, 6], [2]), (2, [6, 4, 5], []), (9, [5, 0], [15]), (9, [4, 0], [11]), (20, [0, 0, 2], [30, 2008, 1, 1, 11, -1, 1, 15, 2000, 0, 0])] ta ws vs := hf
  obtain ⟨f0, hf⟩ := fc_un (show (8 : Nat) < 100 from by decide) hf
  have f0 : v_iv (n_v vs 2) ≠ 0 := f0
  obtain ⟨f1, hf⟩ := fc_un (show (7 : Nat) < 100 from by decide) hf
  have f1 : v_iv (n_v vs 3) < v_iv (n_v vs 6) := f1
  obtain ⟨f2, hf⟩ := fc_un (show (2 : Nat) < 100 from by decide) hf
  have f2 : v_iv (n_v vs 6) = v_iv (n_v vs 4) - v_iv (n_v vs 5) := f2
  obtain ⟨f3, hf⟩ := fc_un (show (9 : Nat) < 100 from by decide) hf
  have f3 : n_v vs 5 = w_fd ws (v_ad (n_v vs 0)) 15 := f3
  obtain ⟨f4, hf⟩ := fc_un (show (9 : Nat) < 100 from by decide) hf
  have f4 : n_v vs 4 = w_fd ws (v_ad (n_v vs 0)) 11 := f4
  obtain ⟨f5, hf⟩ := fc_un (show (20 : Nat) < 100 from by decide) hf
  have f5 : 1 * w_fi ws (n_v vs 0) 11 + ((-1) * w_fi ws (n_v vs 0) 15 + (2000 * v_iv (n_v vs 2) + 0)) ≤ 2008 := f5
  have g3 : v_iv (n_v vs 5) = w_fi ws (n_v vs 0) 15 := congrArg v_iv f3
  have g4 : v_iv (n_v vs 4) = w_fi ws (n_v vs 0) 11 := congrArg v_iv f4
  have kz_0_11 : 0 ≤ w_fi ws (n_v vs 0) 11 ∧ w_fi ws (n_v vs 0) 11 ≤ 2000 := tv_rng (th_fd hD hth r0 (g := GG_150) rfl (k := 11) (t := (0, 0, 2000, [])) rfl rfl)
  have kz_0_15 : 0 ≤ w_fi ws (n_v vs 0) 15 ∧ w_fi ws (n_v vs 0) 15 ≤ 2000 := tv_rng (th_fd hD hth r0 (g := GG_150) rfl (k := 15) (t := (0, 0, 2000, [])) rfl rfl)
  have rf3 : tv_ok ta (0, 0, 7, []) (n_v vs 3) := tv_in t3 (by omega) (by omega)
  refine ⟨List.forall_mem_cons.mpr ⟨rf3, (fun _ h => (by cases h))⟩, [], trivial, ?_, (fun _ h => (by cases h))⟩
  rw [List.append_nil]
  exact (fun _ h => (by cases h))
def o_Mo_known_3 : or_T := (35, 20, [(0, (2, 0, 0, [150])), (1, (0, 0, 23, [])), (2, (0, 1, 1, [])), (3, (0, 0, 7, [])), (4, (0, 1, 2000, [])), (5, (0, 0, 2000, [])), (6, (0, 1, 2000, [])), (7, (2, 0, 0, [152])), (8, (0, 0, 66297, [])), (9, (0, 3, 3, [])), (10, (0, 3, 66300, [])), (11, (0, 8, 8, [])), (12, (0, 0, 184, [])), (13, (0, 3, 66484, [])), (14, (0, 3, 66491, [])), (15, (0, 0, 255, [])), (16, (0, 0, 2007, [])), (17, (0, -1, -1, [])), (18, (0, 0, 0, [])), (19, (0, 1, 8, []))], [(6, [19, 3], [1]), (7, [15, 17], [1]), (20, [16, 0, 17], [50, 1, 1, 1010, 1001, 4, 11, 0, 6, 4, 2, 1, 0, 0, 1, 2, 1, 10, 1, 2, 1, 2, 9, 5, 3, 1, 1, 1, 0, 0, 256]), (20, [0, 16, 17], [50, 1, 0, 10, 4, 7, 0, 3, 2, 0, 10, 1, 1, 1, 2, 1, 2, 0, -1]), (1, [16, 5, 3], []), (9, [5, 0], [15]), (10, [15, 7, 14], []), (1, [14, 13, 3], []), (1, [13, 10, 12], []), (3, [12, 11, 1], []), (1, [10, 8, 9], []), (9, [8, 0], [5]), (9, [7, 0], [2]), (8, [2], [1]), (7, [3, 6], [2]), (2, [6, 4, 5], []), (9, [4, 0], [11]), (20, [0, 0, 2], [30, 2008, 1, 1, 11, -1, 1, 15, 2000, 0, 0])], [], [], [(20, [0, 0, 18], [30, 2008, 1, 1, 11, -1, 1, 15, 2000, 0, 0])], [], [(19, 3, 1, 1), (19, 6, -4294967296, 0), (16, 3, 0, 2000), (16, 6, -4294967296, 1999), (16, 5, 0, 7), (14, 3, 3, 66484), (14, 6, -4294967296, 66483), (14, 13, 0, 7), (14, 12, 3, 66307), (14, 10, 0, 191), (14, 8, 3, 194), (13, 12, 3, 66300), (13, 10, 0, 184), (13, 8, 3, 187), (10, 8, 3, 3), (3, 6, -4294967296, -1), (6, 4, -2000, 0), (2, 1, -4294967296, 1), (2, 3, -4294967296, 1)])
theorem oo_Mo_known_3 {kA : Nat → ClassId} : or_ok kA GG o_Mo_known_3 := by
  intro A ta ws vs hD hth hl hk hds hf
  have hl : vs.length = 20 := hl
  have hk : ∀ q ∈ ([(0, (2, 0, 0, [150])), (1, (0, 0, 23, [])), (2, (0, 1, 1, [])), (3, (0, 0, 7, [])), (4, (0, 1, 2000, [])), (5, (0, 0, 2000, [])), (6, (0, 1, 2000, [])), (7, (2, 0, 0, [152])), (8, (0, 0, 66297, [])), (9, (0, 3, 3, [])), (10, (0, 3, 66300, [])), (11, (0, 8, 8, [])), (12, (0, 0, 184, [])), (13, (0, 3, 66484, [])), (14, (0, 3, 66491, [])), (15, (0, 0, 255, [])), (16, (0, 0, 2007, [])), (17, (0, -1, -1, [])), (18, (0, 0, 0, [])), (19, (0, 1, 8, []))] : List (Nat × tv_T)), tv_ok ta q.2 (n_v vs q.1) := hk
  obtain ⟨t0, hk⟩ := List.forall_mem_cons.mp hk
  have t0 : tv_ok ta (2, 0, 0, [150]) (n_v vs 0) := t0
  have r0 : ta (v_ad (n_v vs 0)) = some 150 := tv_rg t0
  obtain ⟨t1, hk⟩ := List.forall_mem_cons.mp hk
  have t1 : tv_ok ta (0, 0, 23, []) (n_v vs 1) := t1
  have k1 : 0 ≤ v_iv (n_v vs 1) ∧ v_iv (n_v vs 1) ≤ 23 := tv_rng t1
  obtain ⟨t2, hk⟩ := List.forall_mem_cons.mp hk
  have t2 : tv_ok ta (0, 1, 1, []) (n_v vs 2) := t2
  have k2 : 1 ≤ v_iv (n_v vs 2) ∧ v_iv (n_v vs 2) ≤ 1 := tv_rng t2
  obtain ⟨t3, hk⟩ := List.forall_mem_cons.mp hk
  have t3 : tv_ok ta (0, 0, 7, []) (n_v vs 3) := t3
  have k3 : 0 ≤ v_iv (n_v vs 3) ∧ v_iv (n_v vs 3) ≤ 7 := tv_rng t3
  obtain ⟨t4, hk⟩ := List.forall_mem_cons.mp hk
  have t4 : tv_ok ta (0, 1, 2000, []) (n_v vs 4) := t4
  have k4 : 1 ≤ v_iv (n_v vs 4) ∧ v_iv (n_v vs 4) ≤ 2000 := tv_rng t4
  obtain ⟨t5, hk⟩ := List.forall_mem_cons.mp hk
  have t5 : tv_ok ta (0, 0, 2000, []) (n_v vs 5) := t5
  have k5 : 0 ≤ v_iv (n_v vs 5) ∧ v_iv (n_v vs 5) ≤ 2000 := tv_rng t5
  obtain ⟨t6, hk⟩ := List.forall_mem_cons.mp hk
  have t6 : tv_ok ta (0, 1, 2000, []) (n_v vs 6) := t6
  have k6 : 1 ≤ v_iv (n_v vs 6) ∧ v_iv (n_v vs 6) ≤ 2000 := tv_rng t6
  obtain ⟨t7, hk⟩ := List.forall_mem_cons.mp hk
  have t7 : tv_ok ta (2, 0, 0, [152]) (n_v vs 7) := t7
  have r7 : ta (v_ad (n_v vs 7)) = some 152 := tv_rg t7
  obtain ⟨t8, hk⟩ := List.forall_mem_cons.mp hk
  have t8 : tv_ok ta (0, 0, 66297, []) (n_v vs 8) := t8
  have k8 : 0 ≤ v_iv (n_v vs 8) ∧ v_iv (n_v vs 8) ≤ 66297 := tv_rng t8
  obtain ⟨t9, hk⟩ := List.forall_mem_cons.mp hk
  have t9 : tv_ok ta (0, 3, 3, []) (n_v vs 9) := t9
  have k9 : 3 ≤ v_iv (n_v vs 9) ∧ v_iv (n_v vs 9) ≤ 3 := tv_rng t9
  obtain ⟨t10, hk⟩ := List.forall_mem_cons.mp hk
  have t10 : tv_ok ta (0, 3, 66300, []) (n_v vs 10) := t10
  have k10 : 3 ≤ v_iv (n_v vs 10) ∧ v_iv (n_v vs 10) ≤ 66300 := tv_rng t10
  obtain ⟨t11, hk⟩ := List.forall_mem_cons.mp hk
  have t11 : tv_ok ta (0, 8, 8, []) (n_v vs 11) := t11
  have k11 : 8 ≤ v_iv (n_v vs 11) ∧ v_iv (n_v vs 11) ≤ 8 := tv_rng t11
  obtain ⟨t12, hk⟩ := List.forall_mem_cons.mp hk
  have t12 : tv_ok ta (0, 0, 184, []) (n_v vs 12) := t12
  have k12 : 0 ≤ v_iv (n_v vs 12) ∧ v_iv (n_v vs 12) ≤ 184 := tv_rng t12
  obtain ⟨t13, hk⟩ := List.forall_mem_cons.mp hk
  have t13 : tv_ok ta (0, 3, 66484, []) (n_v vs 13) := t13
  have k13 : 3 ≤ v_iv (n_v vs 13) ∧ v_iv (n_v vs 13) ≤ 66484 := tv_rng t13
  obtain ⟨t14, hk⟩ := List.forall_mem_cons.mp hk
  have t14 : tv_ok ta (0, 3, 66491, []) (n_v vs 14) := t14
  have k14 : 3 ≤ v_iv (n_v vs 14) ∧ v_iv (n_v vs 14) ≤ 66491 := tv_rng t14
  obtain ⟨t15, hk⟩ := List.forall_mem_cons.mp hk
  have t15 : tv_ok ta (0, 0, 255, []) (n_v vs 15) := t15
  have k15 : 0 ≤ v_iv (n_v vs 15) ∧ v_iv (n_v vs 15) ≤ 255 := tv_rng t15
  obtain ⟨t16, hk⟩ := List.forall_mem_cons.mp hk
  have t16 : tv_ok ta (0, 0, 2007, []) (n_v vs 16) := t16
  have k16 : 0 ≤ v_iv (n_v vs 16) ∧ v_iv (n_v vs 16) ≤ 2007 := tv_rng t16
  obtain ⟨t17, hk⟩ := List.forall_mem_cons.mp hk
  have t17 : tv_ok ta (0, -1, -1, []) (n_v vs 17) := t17
  have k17 : (-1) ≤ v_iv (n_v vs 17) ∧ v_iv (n_v vs 17) ≤ (-1) := tv_rng t17
  obtain ⟨t18, hk⟩ := List.forall_mem_cons.mp hk
  have t18 : tv_ok ta (0, 0, 0, []) (n_v vs 18) := t18
  have k18 : 0 ≤ v_iv (n_v vs 18) ∧ v_iv (n_v vs 18) ≤ 0 := tv_rng t18
  obtain ⟨t19, hk⟩ := List.forall_mem_cons.mp hk
  have t19 : tv_ok ta (0, 1, 8, []) (n_v vs 19) := t19
  have k19 : 1 ≤ v_iv (n_v vs 19) ∧ v_iv (n_v vs 19) ≤ 8 := tv_rng t19
  have hds : ∀ q ∈ ([(19, 3, 1, 1), (19, 6, -4294967296, 0), (16, 3, 0, 2000), (16, 6, -4294967296, 1999), (16, 5, 0, 7), (14, 3, 3, 66484), (14, 6, -4294967296, 66483), (14, 13, 0, 7), (14, 12, 3, 66307), (14, 10, 0, 191), (14, 8, 3, 194), (13, 12, 3, 66300), (13, 10, 0, 184), (13, 8, 3, 187), (10, 8, 3, 3), (3, 6, -4294967296, -1), (6, 4, -2000, 0), (2, 1, -4294967296, 1), (2, 3, -4294967296, 1)] : List of_T), n_iv vs q.2.1 + q.2.2.1 ≤ n_iv vs q.1 ∧ n_iv vs q.1 ≤ n_iv vs q.2.1 + q.2.2.2 := hds
  obtain ⟨d0, hds⟩ := List.forall_mem_cons.mp hds
  have d0 : v_iv (n_v vs 3) + 1 ≤ v_iv (n_v vs 19) ∧ v_iv (n_v vs 19) ≤ v_iv (n_v vs 3) + 1 := d0
  obtain ⟨d1, hds⟩ := List.forall_mem_cons.mp hds
  have d1 : v_iv (n_v vs 6) + (-4294967296) ≤ v_iv (n_v vs 19) ∧ v_iv (n_v vs 19) ≤ v_iv (n_v vs 6) + 0 := d1
  obtain ⟨d2, hds⟩ := List.forall_mem_cons.mp hds
  have d2 : v_iv (n_v vs 3) + 0 ≤ v_iv (n_v vs 16) ∧ v_iv (n_v vs 16) ≤ v_iv (n_v vs 3) + 2000 := d2
  obtain ⟨d3, hds⟩ := List.forall_mem_cons.mp hds
  have d3 : v_iv (n_v vs 6) + (-4294967296) ≤ v_iv (n_v vs 16) ∧ v_iv (n_v vs 16) ≤ v_iv (n_v vs 6) + 1999 := d3
  obtain ⟨d4, hds⟩ := List.forall_mem_cons.mp hds
  have d4 : v_iv (n_v vs 5) + 0 ≤ v_iv (n_v vs 16) ∧ v_iv (n_v vs 16) ≤ v_iv (n_v vs 5) + 7 := d4
  obtain ⟨d5, hds⟩ := List.forall_mem_cons.mp hds
  have d5 : v_iv (n_v vs 3) + 3 ≤ v_iv (n_v vs 14) ∧ v_iv (n_v vs 14) ≤ v_iv (n_v vs 3) + 66484 := d5
  obtain ⟨d6, hds⟩ := List.forall_mem_cons.mp hds
  have d6 : v_iv (n_v vs 6) + (-4294967296) ≤ v_iv (n_v vs 14) ∧ v_iv (n_v vs 14) ≤ v_iv (n_v vs 6) + 66483 := d6
  obtain ⟨d7, hds⟩ := List.forall_mem_cons.mp hds
  have d7 : v_iv (n_v vs 13) + 0 ≤ v_iv (n_v vs 14) ∧ v_iv (n_v vs 14) ≤ v_iv (n_v vs 13) + 7 := d7
  obtain ⟨d8, hds⟩ := List.forall_mem_cons.mp hds
  have d8 : v_iv (n_v vs 12) + 3 ≤ v_iv (n_v vs 14) ∧ v_iv (n_v vs 14) ≤ v_iv (n_v vs 12) + 66307 := d8
  obtain ⟨d9, hds⟩ := List.forall_mem_cons.mp hds
  have d9 : v_iv (n_v vs 10) + 0 ≤ v_iv (n_v vs 14) ∧ v_iv (n_v vs 14) ≤ v_iv (n_v vs 10) + 191 := d9
  obtain ⟨d10, hds⟩ := List.forall_mem_cons.mp hds
  have d10 : v_iv (n_v vs 8) + 3 ≤ v_iv (n_v vs 14) ∧ v_iv (n_v vs 14) ≤ v_iv (n_v vs 8) + 194 := d10
  obtain ⟨d11, hds⟩ := List.forall_mem_cons.mp hds
  have d11 : v_iv (n_v vs 12) + 3 ≤ v_iv (n_v vs 13) ∧ v_iv (n_v vs 13) ≤ v_iv (n_v vs 12) + 66300 := d11
  obtain ⟨d12, hds⟩ := List.forall_mem_cons.mp hds
  have d12 : v_iv (n_v vs 10) + 0 ≤ v_iv (n_v vs 13) ∧ v_iv (n_v vs 13) ≤ v_iv (n_v vs 10) + 184 := d12
  obtain ⟨d13, hds⟩ := List.forall_mem_cons.mp hds
  have d13 : v_iv (n_v vs 8) + 3 ≤ v_iv (n_v vs 13) ∧ v_iv (n_v vs 13) ≤ v_iv (n_v vs 8) + 187 := d13
  obtain ⟨d14, hds⟩ := List.forall_mem_cons.mp hds
  have d14 : v_iv (n_v vs 8) + 3 ≤ v_iv (n_v vs 10) ∧ v_iv (n_v vs 10) ≤ v_iv (n_v vs 8) + 3 := d14
  obtain ⟨d15, hds⟩ := List.forall_mem_cons.mp hds
  have d15 : v_iv (n_v vs 6) + (-4294967296) ≤ v_iv (n_v vs 3) ∧ v_iv (n_v vs 3) ≤ v_iv (n_v vs 6) + (-1) := d15
  obtain ⟨d16, hds⟩ := List.forall_mem_cons.mp hds
  have d16 : v_iv (n_v vs 4) + (-2000) ≤ v_iv (n_v vs 6) ∧ v_iv (n_v vs 6) ≤ v_iv (n_v vs 4) + 0 := d16
  obtain ⟨d17, hds⟩ := List.forall_mem_cons.mp hds
  have d17 : v_iv (n_v vs 1) + (-4294967296) ≤ v_iv (n_v vs 2) ∧ v_iv (n_v vs 2) ≤ v_iv (n_v vs 1) + 1 := d17
  obtain ⟨d18, hds⟩ := List.forall_mem_cons.mp hds
  have d18 : v_iv (n_v vs 3) + (-4294967296) ≤ v_iv (n_v vs 2) ∧ v_iv (n_v vs 2) ≤ v_iv (n_v vs 3) + 1 := d18
  have hf : fc_ok [(6, [19, 3], [1]), (7, [15, 17], [1]), (20, [16, 0, 17], [50, 1, 1, 1010, 1001, 4, 11, 0, 6, 4, 2, 1, 0, 0, 1, 2, 1, 10, 1, 2, 1, 2, 9, 5, 3, 1, 1, 1, 0, 0, 256]), (20, [0, 16, 17], [50, 1, 0, 10, 4, 7, 0, 3, 2, 0, 10, 1, 1, 1, 2, 1, 2, 0, -1]), (1, [16, 5, 3], []), (9, [5, 0], [15]), (10, [15, 7, 14], []), (1, [14, 13, 3], []), (1, [13, 10, 12], []), (3, [12, 11, 1], []), (1, [10, 8, 9], []), (9, [8, 0], [5]), (9, [7, 0], [2]), (8, [2], [1]), (7, [3, 6], [2]), (2, [6, 4, 5], []), (9, [4, 0], [11]), (20, [0, 0, 2], [30, 2008, 1, 1, 11, -1, 1, 15, 2000, 0, 0])] ta ws vs := hf
  obtain ⟨f0, hf⟩ := fc_un (show (6 : Nat) < 100 from by decide) hf
  have f0 : v_iv (n_v vs 19) = v_iv (n_v vs 3) + 1 := f0
  obtain ⟨f1, hf⟩ := fc_un (show (7 : Nat) < 100 from by decide) hf
  have f1 : v_iv (n_v vs 15) ≠ v_iv (n_v vs 17) := f1
  obtain ⟨f2, hf⟩ := fc_un (show (20 : Nat) < 100 from by decide) hf
  have f2 : ((v_iv (n_v vs 16) + 1) ≤ w_fi ws (n_v vs 0) 10) → (v_iv (n_v vs 17) = (w_ei ws (w_ar ws (n_v vs 0) 1) (v_iv (n_v vs 16)) % 256)) := f2
  obtain ⟨f3, hf⟩ := fc_un (show (20 : Nat) < 100 from by decide) hf
  have f3 : (w_fi ws (n_v vs 0) 10 ≤ v_iv (n_v vs 16)) → (v_iv (n_v vs 17) = (-1)) := f3
  obtain ⟨f4, hf⟩ := fc_un (show (1 : Nat) < 100 from by decide) hf
  have f4 : v_iv (n_v vs 16) = v_iv (n_v vs 5) + v_iv (n_v vs 3) := f4
  obtain ⟨f5, hf⟩ := fc_un (show (9 : Nat) < 100 from by decide) hf
  have f5 : n_v vs 5 = w_fd ws (v_ad (n_v vs 0)) 15 := f5
  obtain ⟨f6, hf⟩ := fc_un (show (10 : Nat) < 100 from by decide) hf
  have f6 : v_iv (n_v vs 15) = w_el ws (v_ad (n_v vs 7)) (v_iv (n_v vs 14)).toNat := f6
  obtain ⟨f7, hf⟩ := fc_un (show (1 : Nat) < 100 from by decide) hf
  have f7 : v_iv (n_v vs 14) = v_iv (n_v vs 13) + v_iv (n_v vs 3) := f7
  obtain ⟨f8, hf⟩ := fc_un (show (1 : Nat) < 100 from by decide) hf
  have f8 : v_iv (n_v vs 13) = v_iv (n_v vs 10) + v_iv (n_v vs 12) := f8
  obtain ⟨f9, hf⟩ := fc_un (show (3 : Nat) < 100 from by decide) hf
  have f9 : v_iv (n_v vs 12) = v_iv (n_v vs 11) * v_iv (n_v vs 1) := f9
  rw [show v_iv (n_v vs 11) = 8 from by omega] at f9
  obtain ⟨f10, hf⟩ := fc_un (show (1 : Nat) < 100 from by decide) hf
  have f10 : v_iv (n_v vs 10) = v_iv (n_v vs 8) + v_iv (n_v vs 9) := f10
  obtain ⟨f11, hf⟩ := fc_un (show (9 : Nat) < 100 from by decide) hf
  have f11 : n_v vs 8 = w_fd ws (v_ad (n_v vs 0)) 5 := f11
  obtain ⟨f12, hf⟩ := fc_un (show (9 : Nat) < 100 from by decide) hf
  have f12 : n_v vs 7 = w_fd ws (v_ad (n_v vs 0)) 2 := f12
  obtain ⟨f13, hf⟩ := fc_un (show (8 : Nat) < 100 from by decide) hf
  have f13 : v_iv (n_v vs 2) ≠ 0 := f13
  obtain ⟨f14, hf⟩ := fc_un (show (7 : Nat) < 100 from by decide) hf
  have f14 : v_iv (n_v vs 3) < v_iv (n_v vs 6) := f14
  obtain ⟨f15, hf⟩ := fc_un (show (2 : Nat) < 100 from by decide) hf
  have f15 : v_iv (n_v vs 6) = v_iv (n_v vs 4) - v_iv (n_v vs 5) := f15
  obtain ⟨f16, hf⟩ := fc_un (show (9 : Nat) < 100 from by decide) hf
  have f16 : n_v vs 4 = w_fd ws (v_ad (n_v vs 0)) 11 := f16
  obtain ⟨f17, hf⟩ := fc_un (show (20 : Nat) < 100 from by decide) hf
  have f17 : 1 * w_fi ws (n_v vs 0) 11 + ((-1) * w_fi ws (n_v vs 0) 15 + (2000 * v_iv (n_v vs 2) + 0)) ≤ 2008 := f17
  have cr_0_1 : ta (w_ar ws (n_v vs 0) 1) = some 151 := tv_rg (th_fd hD hth r0 (g := GG_150) rfl (k := 1) (t := (2, 0, 0, [151])) rfl rfl)
  have cr_0_2 : ta (w_ar ws (n_v vs 0) 2) = some 152 := tv_rg (th_fd hD hth r0 (g := GG_150) rfl (k := 2) (t := (2, 0, 0, [152])) rfl rfl)
  have ad_7 : v_ad (n_v vs 7) = w_ar ws (n_v vs 0) 2 := congrArg v_ad f12
  have g5 : v_iv (n_v vs 5) = w_fi ws (n_v vs 0) 15 := congrArg v_iv f5
  rw [ad_7] at f6
  have g11 : v_iv (n_v vs 8) = w_fi ws (n_v vs 0) 5 := congrArg v_iv f11
  have g16 : v_iv (n_v vs 4) = w_fi ws (n_v vs 0) 11 := congrArg v_iv f16
  have hK_0_1 : ∀ j : Int, 0 ≤ j → j < 2000 → (-128) ≤ w_ei ws (w_ar ws (n_v vs 0) 1) j ∧ w_ei ws (w_ar ws (n_v vs 0) 1) j ≤ 127 := fun j h0 h1 => th_el hD hth cr_0_1 (kd := 1) (n := 2000) (m := 2000) (lo := (-128)) (hi := 127) (rs := []) (L := []) rfl (by decide) (j := j.toNat) (by omega)
  have kz_0_10 : 0 ≤ w_fi ws (n_v vs 0) 10 ∧ w_fi ws (n_v vs 0) 10 ≤ 2000 := tv_rng (th_fd hD hth r0 (g := GG_150) rfl (k := 10) (t := (0, 0, 2000, [])) rfl rfl)
  have kz_0_11 : 0 ≤ w_fi ws (n_v vs 0) 11 ∧ w_fi ws (n_v vs 0) 11 ≤ 2000 := tv_rng (th_fd hD hth r0 (g := GG_150) rfl (k := 11) (t := (0, 0, 2000, [])) rfl rfl)
  have kz_0_15 : 0 ≤ w_fi ws (n_v vs 0) 15 ∧ w_fi ws (n_v vs 0) 15 ≤ 2000 := tv_rng (th_fd hD hth r0 (g := GG_150) rfl (k := 15) (t := (0, 0, 2000, [])) rfl rfl)
  have nf0 : fc_1 (20, [0, 0, 18], [30, 2008, 1, 1, 11, -1, 1, 15, 2000, 0, 0]) ws (vs) := by
    refine ⟨fun n hn => ?_, ?_⟩
    · have hn : n ∈ [0, 0, 18] := hn
      rw [hl]
      simp only [List.mem_cons, List.not_mem_nil, or_false] at hn
      show n < 20; omega
    · show 1 * w_fi ws (n_v vs 0) 11 + ((-1) * w_fi ws (n_v vs 0) 15 + (2000 * v_iv (n_v vs 18) + 0)) ≤ 2008
      omega
  refine ⟨(fun _ h => (by cases h)), [], trivial, ?_, (fun _ h => (by cases h))⟩
  rw [List.append_nil]
  exact List.forall_mem_cons.mpr ⟨⟨show (20 : Nat) < 100 from by decide, nf0⟩, (fun _ h => (by cases h))⟩
def o_Mo_known_4 : or_T := (35, 20, [(0, (2, 0, 0, [150])), (1, (0, 0, 23, [])), (2, (0, 1, 1, [])), (3, (0, 0, 7, [])), (4, (0, 1, 2000, [])), (5, (0, 0, 2000, [])), (6, (0, 1, 2000, [])), (7, (2, 0, 0, [152])), (8, (0, 0, 66297, [])), (9, (0, 3, 3, [])), (10, (0, 3, 66300, [])), (11, (0, 8, 8, [])), (12, (0, 0, 184, [])), (13, (0, 3, 66484, [])), (14, (0, 3, 66491, [])), (15, (0, -1, -1, [])), (16, (0, 0, 2007, [])), (17, (0, -1, -1, [])), (18, (0, 1, 1, [])), (19, (0, 1, 8, []))], [(6, [19, 3], [1]), (7, [15, 17], [0]), (20, [16, 0, 17], [50, 1, 1, 1010, 1001, 4, 11, 0, 6, 4, 2, 1, 0, 0, 1, 2, 1, 10, 1, 2, 1, 2, 9, 5, 3, 1, 1, 1, 0, 0, 256]), (20, [0, 16, 17], [50, 1, 0, 10, 4, 7, 0, 3, 2, 0, 10, 1, 1, 1, 2, 1, 2, 0, -1]), (1, [16, 5, 3], []), (9, [5, 0], [15]), (10, [15, 7, 14], []), (1, [14, 13, 3], []), (1, [13, 10, 12], []), (3, [12, 11, 1], []), (1, [10, 8, 9], []), (9, [8, 0], [5]), (9, [7, 0], [2]), (8, [2], [1]), (7, [3, 6], [2]), (2, [6, 4, 5], []), (9, [4, 0], [11]), (20, [0, 0, 2], [30, 2008, 1, 1, 11, -1, 1, 15, 2000, 0, 0])], [], [], [(20, [0, 0, 18], [30, 2008, 1, 1, 11, -1, 1, 15, 2000, 0, 0])], [], [(19, 3, 1, 1), (19, 6, -4294967296, 0), (16, 3, 0, 2000), (16, 6, -4294967296, 1999), (16, 5, 0, 7), (14, 3, 3, 66484), (14, 6, -4294967296, 66483), (14, 13, 0, 7), (14, 12, 3, 66307), (14, 10, 0, 191), (14, 8, 3, 194), (13, 12, 3, 66300), (13, 10, 0, 184), (13, 8, 3, 187), (10, 8, 3, 3), (3, 6, -4294967296, -1), (6, 4, -2000, 0), (2, 1, -4294967296, 1), (2, 3, -4294967296, 1)])
theorem oo_Mo_known_4 {kA : Nat → ClassId} : or_ok kA GG o_Mo_known_4 := by
  intro A ta ws vs hD hth hl hk hds hf
  have hl : vs.length = 20 := hl
  have hk : ∀ q ∈ ([(0, (2, 0, 0, [150])), (1, (0, 0, 23, [])), (2, (0, 1, 1, [])), (3, (0, 0, 7, [])), (4, (0, 1, 2000, [])), (5, (0, 0, 2000, [])), (6, (0, 1, 2000, [])), (7, (2, 0, 0, [152])), (8, (0, 0, 66297, [])), (9, (0, 3, 3, [])), (10, (0, 3, 66300, [])), (11, (0, 8, 8, [])), (12, (0, 0, 184, [])), (13, (0, 3, 66484, [])), (14, (0, 3, 66491, [])), (15, (0, -1, -1, [])), (16, (0, 0, 2007, [])), (17, (0, -1, -1, [])), (18, (0, 1, 1, [])), (19, (0, 1, 8, []))] : List (Nat × tv_T)), tv_ok ta q.2 (n_v vs q.1) := hk
  obtain ⟨t0, hk⟩ := List.forall_mem_cons.mp hk
  have t0 : tv_ok ta (2, 0, 0, [150]) (n_v vs 0) := t0
  have r0 : ta (v_ad (n_v vs 0)) = some 150 := tv_rg t0
  obtain ⟨t1, hk⟩ := List.forall_mem_cons.mp hk
  have t1 : tv_ok ta (0, 0, 23, []) (n_v vs 1) := t1
  have k1 : 0 ≤ v_iv (n_v vs 1) ∧ v_iv (n_v vs 1) ≤ 23 := tv_rng t1
  obtain ⟨t2, hk⟩ := List.forall_mem_cons.mp hk
  have t2 : tv_ok ta (0, 1, 1, []) (n_v vs 2) := t2
  have k2 : 1 ≤ v_iv (n_v vs 2) ∧ v_iv (n_v vs 2) ≤ 1 := tv_rng t2
  obtain ⟨t3, hk⟩ := List.forall_mem_cons.mp hk
  have t3 : tv_ok ta (0, 0, 7, []) (n_v vs 3) := t3
  have k3 : 0 ≤ v_iv (n_v vs 3) ∧ v_iv (n_v vs 3) ≤ 7 := tv_rng t3
  obtain ⟨t4, hk⟩ := List.forall_mem_cons.mp hk
  have t4 : tv_ok ta (0, 1, 2000, []) (n_v vs 4) := t4
  have k4 : 1 ≤ v_iv (n_v vs 4) ∧ v_iv (n_v vs 4) ≤ 2000 := tv_rng t4
  obtain ⟨t5, hk⟩ := List.forall_mem_cons.mp hk
  have t5 : tv_ok ta (0, 0, 2000, []) (n_v vs 5) := t5
  have k5 : 0 ≤ v_iv (n_v vs 5) ∧ v_iv (n_v vs 5) ≤ 2000 := tv_rng t5
  obtain ⟨t6, hk⟩ := List.forall_mem_cons.mp hk
  have t6 : tv_ok ta (0, 1, 2000, []) (n_v vs 6) := t6
  have k6 : 1 ≤ v_iv (n_v vs 6) ∧ v_iv (n_v vs 6) ≤ 2000 := tv_rng t6
  obtain ⟨t7, hk⟩ := List.forall_mem_cons.mp hk
  have t7 : tv_ok ta (2, 0, 0, [152]) (n_v vs 7) := t7
  have r7 : ta (v_ad (n_v vs 7)) = some 152 := tv_rg t7
  obtain ⟨t8, hk⟩ := List.forall_mem_cons.mp hk
  have t8 : tv_ok ta (0, 0, 66297, []) (n_v vs 8) := t8
  have k8 : 0 ≤ v_iv (n_v vs 8) ∧ v_iv (n_v vs 8) ≤ 66297 := tv_rng t8
  obtain ⟨t9, hk⟩ := List.forall_mem_cons.mp hk
  have t9 : tv_ok ta (0, 3, 3, []) (n_v vs 9) := t9
  have k9 : 3 ≤ v_iv (n_v vs 9) ∧ v_iv (n_v vs 9) ≤ 3 := tv_rng t9
  obtain ⟨t10, hk⟩ := List.forall_mem_cons.mp hk
  have t10 : tv_ok ta (0, 3, 66300, []) (n_v vs 10) := t10
  have k10 : 3 ≤ v_iv (n_v vs 10) ∧ v_iv (n_v vs 10) ≤ 66300 := tv_rng t10
  obtain ⟨t11, hk⟩ := List.forall_mem_cons.mp hk
  have t11 : tv_ok ta (0, 8, 8, []) (n_v vs 11) := t11
  have k11 : 8 ≤ v_iv (n_v vs 11) ∧ v_iv (n_v vs 11) ≤ 8 := tv_rng t11
  obtain ⟨t12, hk⟩ := List.forall_mem_cons.mp hk
  have t12 : tv_ok ta (0, 0, 184, []) (n_v vs 12) := t12
  have k12 : 0 ≤ v_iv (n_v vs 12) ∧ v_iv (n_v vs 12) ≤ 184 := tv_rng t12
  obtain ⟨t13, hk⟩ := List.forall_mem_cons.mp hk
  have t13 : tv_ok ta (0, 3, 66484, []) (n_v vs 13) := t13
  have k13 : 3 ≤ v_iv (n_v vs 13) ∧ v_iv (n_v vs 13) ≤ 66484 := tv_rng t13
  obtain ⟨t14, hk⟩ := List.forall_mem_cons.mp hk
  have t14 : tv_ok ta (0, 3, 66491, []) (n_v vs 14) := t14
  have k14 : 3 ≤ v_iv (n_v vs 14) ∧ v_iv (n_v vs 14) ≤ 66491 := tv_rng t14
  obtain ⟨t15, hk⟩ := List.forall_mem_cons.mp hk
  have t15 : tv_ok ta (0, -1, -1, []) (n_v vs 15) := t15
  have k15 : (-1) ≤ v_iv (n_v vs 15) ∧ v_iv (n_v vs 15) ≤ (-1) := tv_rng t15
  obtain ⟨t16, hk⟩ := List.forall_mem_cons.mp hk
  have t16 : tv_ok ta (0, 0, 2007, []) (n_v vs 16) := t16
  have k16 : 0 ≤ v_iv (n_v vs 16) ∧ v_iv (n_v vs 16) ≤ 2007 := tv_rng t16
  obtain ⟨t17, hk⟩ := List.forall_mem_cons.mp hk
  have t17 : tv_ok ta (0, -1, -1, []) (n_v vs 17) := t17
  have k17 : (-1) ≤ v_iv (n_v vs 17) ∧ v_iv (n_v vs 17) ≤ (-1) := tv_rng t17
  obtain ⟨t18, hk⟩ := List.forall_mem_cons.mp hk
  have t18 : tv_ok ta (0, 1, 1, []) (n_v vs 18) := t18
  have k18 : 1 ≤ v_iv (n_v vs 18) ∧ v_iv (n_v vs 18) ≤ 1 := tv_rng t18
  obtain ⟨t19, hk⟩ := List.forall_mem_cons.mp hk
  have t19 : tv_ok ta (0, 1, 8, []) (n_v vs 19) := t19
  have k19 : 1 ≤ v_iv (n_v vs 19) ∧ v_iv (n_v vs 19) ≤ 8 := tv_rng t19
  have hds : ∀ q ∈ ([(19, 3, 1, 1), (19, 6, -4294967296, 0), (16, 3, 0, 2000), (16, 6, -4294967296, 1999), (16, 5, 0, 7), (14, 3, 3, 66484), (14, 6, -4294967296, 66483), (14, 13, 0, 7), (14, 12, 3, 66307), (14, 10, 0, 191), (14, 8, 3, 194), (13, 12, 3, 66300), (13, 10, 0, 184), (13, 8, 3, 187), (10, 8, 3, 3), (3, 6, -4294967296, -1), (6, 4, -2000, 0), (2, 1, -4294967296, 1), (2, 3, -4294967296, 1)] : List of_T), n_iv vs q.2.1 + q.2.2.1 ≤ n_iv vs q.1 ∧ n_iv vs q.1 ≤ n_iv vs q.2.1 + q.2.2.2 := hds
  obtain ⟨d0, hds⟩ := List.forall_mem_cons.mp hds
  have d0 : v_iv (n_v vs 3) + 1 ≤ v_iv (n_v vs 19) ∧ v_iv (n_v vs 19) ≤ v_iv (n_v vs 3) + 1 := d0
  obtain ⟨d1, hds⟩ := List.forall_mem_cons.mp hds
  have d1 : v_iv (n_v vs 6) + (-4294967296) ≤ v_iv (n_v vs 19) ∧ v_iv (n_v vs 19) ≤ v_iv (n_v vs 6) + 0 := d1
  obtain ⟨d2, hds⟩ := List.forall_mem_cons.mp hds
  have d2 : v_iv (n_v vs 3) + 0 ≤ v_iv (n_v vs 16) ∧ v_iv (n_v vs 16) ≤ v_iv (n_v vs 3) + 2000 := d2
  obtain ⟨d3, hds⟩ := List.forall_mem_cons.mp hds
  have d3 : v_iv (n_v vs 6) + (-4294967296) ≤ v_iv (n_v vs 16) ∧ v_iv (n_v vs 16) ≤ v_iv (n_v vs 6) + 1999 := d3
  obtain ⟨d4, hds⟩ := List.forall_mem_cons.mp hds
  have d4 : v_iv (n_v vs 5) + 0 ≤ v_iv (n_v vs 16) ∧ v_iv (n_v vs 16) ≤ v_iv (n_v vs 5) + 7 := d4
  obtain ⟨d5, hds⟩ := List.forall_mem_cons.mp hds
  have d5 : v_iv (n_v vs 3) + 3 ≤ v_iv (n_v vs 14) ∧ v_iv (n_v vs 14) ≤ v_iv (n_v vs 3) + 66484 := d5
  obtain ⟨d6, hds⟩ := List.forall_mem_cons.mp hds
  have d6 : v_iv (n_v vs 6) + (-4294967296) ≤ v_iv (n_v vs 14) ∧ v_iv (n_v vs 14) ≤ v_iv (n_v vs 6) + 66483 := d6
  obtain ⟨d7, hds⟩ := List.forall_mem_cons.mp hds
  have d7 : v_iv (n_v vs 13) + 0 ≤ v_iv (n_v vs 14) ∧ v_iv (n_v vs 14) ≤ v_iv (n_v vs 13) + 7 := d7
  obtain ⟨d8, hds⟩ := List.forall_mem_cons.mp hds
  have d8 : v_iv (n_v vs 12) + 3 ≤ v_iv (n_v vs 14) ∧ v_iv (n_v vs 14) ≤ v_iv (n_v vs 12) + 66307 := d8
  obtain ⟨d9, hds⟩ := List.forall_mem_cons.mp hds
  have d9 : v_iv (n_v vs 10) + 0 ≤ v_iv (n_v vs 14) ∧ v_iv (n_v vs 14) ≤ v_iv (n_v vs 10) + 191 := d9
  obtain ⟨d10, hds⟩ := List.forall_mem_cons.mp hds
  have d10 : v_iv (n_v vs 8) + 3 ≤ v_iv (n_v vs 14) ∧ v_iv (n_v vs 14) ≤ v_iv (n_v vs 8) + 194 := d10
  obtain ⟨d11, hds⟩ := List.forall_mem_cons.mp hds
  have d11 : v_iv (n_v vs 12) + 3 ≤ v_iv (n_v vs 13) ∧ v_iv (n_v vs 13) ≤ v_iv (n_v vs 12) + 66300 := d11
  obtain ⟨d12, hds⟩ := List.forall_mem_cons.mp hds
  have d12 : v_iv (n_v vs 10) + 0 ≤ v_iv (n_v vs 13) ∧ v_iv (n_v vs 13) ≤ v_iv (n_v vs 10) + 184 := d12
  obtain ⟨d13, hds⟩ := List.forall_mem_cons.mp hds
  have d13 : v_iv (n_v vs 8) + 3 ≤ v_iv (n_v vs 13) ∧ v_iv (n_v vs 13) ≤ v_iv (n_v vs 8) + 187 := d13
  obtain ⟨d14, hds⟩ := List.forall_mem_cons.mp hds
  have d14 : v_iv (n_v vs 8) + 3 ≤ v_iv (n_v vs 10) ∧ v_iv (n_v vs 10) ≤ v_iv (n_v vs 8) + 3 := d14
  obtain ⟨d15, hds⟩ := List.forall_mem_cons.mp hds
  have d15 : v_iv (n_v vs 6) + (-4294967296) ≤ v_iv (n_v vs 3) ∧ v_iv (n_v vs 3) ≤ v_iv (n_v vs 6) + (-1) := d15
  obtain ⟨d16, hds⟩ := List.forall_mem_cons.mp hds
  have d16 : v_iv (n_v vs 4) + (-2000) ≤ v_iv (n_v vs 6) ∧ v_iv (n_v vs 6) ≤ v_iv (n_v vs 4) + 0 := d16
  obtain ⟨d17, hds⟩ := List.forall_mem_cons.mp hds
  have d17 : v_iv (n_v vs 1) + (-4294967296) ≤ v_iv (n_v vs 2) ∧ v_iv (n_v vs 2) ≤ v_iv (n_v vs 1) + 1 := d17
  obtain ⟨d18, hds⟩ := List.forall_mem_cons.mp hds
  have d18 : v_iv (n_v vs 3) + (-4294967296) ≤ v_iv (n_v vs 2) ∧ v_iv (n_v vs 2) ≤ v_iv (n_v vs 3) + 1 := d18
  have hf : fc_ok [(6, [19, 3], [1]), (7, [15, 17], [0]), (20, [16, 0, 17], [50, 1, 1, 1010, 1001, 4, 11, 0, 6, 4, 2, 1, 0, 0, 1, 2, 1, 10, 1, 2, 1, 2, 9, 5, 3, 1, 1, 1, 0, 0, 256]), (20, [0, 16, 17], [50, 1, 0, 10, 4, 7, 0, 3, 2, 0, 10, 1, 1, 1, 2, 1, 2, 0, -1]), (1, [16, 5, 3], []), (9, [5, 0], [15]), (10, [15, 7, 14], []), (1, [14, 13, 3], []), (1, [13, 10, 12], []), (3, [12, 11, 1], []), (1, [10, 8, 9], []), (9, [8, 0], [5]), (9, [7, 0], [2]), (8, [2], [1]), (7, [3, 6], [2]), (2, [6, 4, 5], []), (9, [4, 0], [11]), (20, [0, 0, 2], [30, 2008, 1, 1, 11, -1, 1, 15, 2000, 0, 0])] ta ws vs := hf
  obtain ⟨f0, hf⟩ := fc_un (show (6 : Nat) < 100 from by decide) hf
  have f0 : v_iv (n_v vs 19) = v_iv (n_v vs 3) + 1 := f0
  obtain ⟨f1, hf⟩ := fc_un (show (7 : Nat) < 100 from by decide) hf
  have f1 : v_iv (n_v vs 15) = v_iv (n_v vs 17) := f1
  obtain ⟨f2, hf⟩ := fc_un (show (20 : Nat) < 100 from by decide) hf
  have f2 : ((v_iv (n_v vs 16) + 1) ≤ w_fi ws (n_v vs 0) 10) → (v_iv (n_v vs 17) = (w_ei ws (w_ar ws (n_v vs 0) 1) (v_iv (n_v vs 16)) % 256)) := f2
  obtain ⟨f3, hf⟩ := fc_un (show (20 : Nat) < 100 from by decide) hf
  have f3 : (w_fi ws (n_v vs 0) 10 ≤ v_iv (n_v vs 16)) → (v_iv (n_v vs 17) = (-1)) := f3
  obtain ⟨f4, hf⟩ := fc_un (show (1 : Nat) < 100 from by decide) hf
  have f4 : v_iv (n_v vs 16) = v_iv (n_v vs 5) + v_iv (n_v vs 3) := f4
  obtain ⟨f5, hf⟩ := fc_un (show (9 : Nat) < 100 from by decide) hf
  have f5 : n_v vs 5 = w_fd ws (v_ad (n_v vs 0)) 15 := f5
  obtain ⟨f6, hf⟩ := fc_un (show (10 : Nat) < 100 from by decide) hf
  have f6 : v_iv (n_v vs 15) = w_el ws (v_ad (n_v vs 7)) (v_iv (n_v vs 14)).toNat := f6
  obtain ⟨f7, hf⟩ := fc_un (show (1 : Nat) < 100 from by decide) hf
  have f7 : v_iv (n_v vs 14) = v_iv (n_v vs 13) + v_iv (n_v vs 3) := f7
  obtain ⟨f8, hf⟩ := fc_un (show (1 : Nat) < 100 from by decide) hf
  have f8 : v_iv (n_v vs 13) = v_iv (n_v vs 10) + v_iv (n_v vs 12) := f8
  obtain ⟨f9, hf⟩ := fc_un (show (3 : Nat) < 100 from by decide) hf
  have f9 : v_iv (n_v vs 12) = v_iv (n_v vs 11) * v_iv (n_v vs 1) := f9
  rw [show v_iv (n_v vs 11) = 8 from by omega] at f9
  obtain ⟨f10, hf⟩ := fc_un (show (1 : Nat) < 100 from by decide) hf
  have f10 : v_iv (n_v vs 10) = v_iv (n_v vs 8) + v_iv (n_v vs 9) := f10
  obtain ⟨f11, hf⟩ := fc_un (show (9 : Nat) < 100 from by decide) hf
  have f11 : n_v vs 8 = w_fd ws (v_ad (n_v vs 0)) 5 := f11
  obtain ⟨f12, hf⟩ := fc_un (show (9 : Nat) < 100 from by decide) hf
  have f12 : n_v vs 7 = w_fd ws (v_ad (n_v vs 0)) 2 := f12
  obtain ⟨f13, hf⟩ := fc_un (show (8 : Nat) < 100 from by decide) hf
  have f13 : v_iv (n_v vs 2) ≠ 0 := f13
  obtain ⟨f14, hf⟩ := fc_un (show (7 : Nat) < 100 from by decide) hf
  have f14 : v_iv (n_v vs 3) < v_iv (n_v vs 6) := f14
  obtain ⟨f15, hf⟩ := fc_un (show (2 : Nat) < 100 from by decide) hf
  have f15 : v_iv (n_v vs 6) = v_iv (n_v vs 4) - v_iv (n_v vs 5) := f15
  obtain ⟨f16, hf⟩ := fc_un (show (9 : Nat) < 100 from by decide) hf
  have f16 : n_v vs 4 = w_fd ws (v_ad (n_v vs 0)) 11 := f16
  obtain ⟨f17, hf⟩ := fc_un (show (20 : Nat) < 100 from by decide) hf
  have f17 : 1 * w_fi ws (n_v vs 0) 11 + ((-1) * w_fi ws (n_v vs 0) 15 + (2000 * v_iv (n_v vs 2) + 0)) ≤ 2008 := f17
  have cr_0_1 : ta (w_ar ws (n_v vs 0) 1) = some 151 := tv_rg (th_fd hD hth r0 (g := GG_150) rfl (k := 1) (t := (2, 0, 0, [151])) rfl rfl)
  have cr_0_2 : ta (w_ar ws (n_v vs 0) 2) = some 152 := tv_rg (th_fd hD hth r0 (g := GG_150) rfl (k := 2) (t := (2, 0, 0, [152])) rfl rfl)
  have ad_7 : v_ad (n_v vs 7) = w_ar ws (n_v vs 0) 2 := congrArg v_ad f12
  have g5 : v_iv (n_v vs 5) = w_fi ws (n_v vs 0) 15 := congrArg v_iv f5
  rw [ad_7] at f6
  have g11 : v_iv (n_v vs 8) = w_fi ws (n_v vs 0) 5 := congrArg v_iv f11
  have g16 : v_iv (n_v vs 4) = w_fi ws (n_v vs 0) 11 := congrArg v_iv f16
  have hK_0_1 : ∀ j : Int, 0 ≤ j → j < 2000 → (-128) ≤ w_ei ws (w_ar ws (n_v vs 0) 1) j ∧ w_ei ws (w_ar ws (n_v vs 0) 1) j ≤ 127 := fun j h0 h1 => th_el hD hth cr_0_1 (kd := 1) (n := 2000) (m := 2000) (lo := (-128)) (hi := 127) (rs := []) (L := []) rfl (by decide) (j := j.toNat) (by omega)
  have kz_0_10 : 0 ≤ w_fi ws (n_v vs 0) 10 ∧ w_fi ws (n_v vs 0) 10 ≤ 2000 := tv_rng (th_fd hD hth r0 (g := GG_150) rfl (k := 10) (t := (0, 0, 2000, [])) rfl rfl)
  have kz_0_11 : 0 ≤ w_fi ws (n_v vs 0) 11 ∧ w_fi ws (n_v vs 0) 11 ≤ 2000 := tv_rng (th_fd hD hth r0 (g := GG_150) rfl (k := 11) (t := (0, 0, 2000, [])) rfl rfl)
  have kz_0_15 : 0 ≤ w_fi ws (n_v vs 0) 15 ∧ w_fi ws (n_v vs 0) 15 ≤ 2000 := tv_rng (th_fd hD hth r0 (g := GG_150) rfl (k := 15) (t := (0, 0, 2000, [])) rfl rfl)
  have nf0 : fc_1 (20, [0, 0, 18], [30, 2008, 1, 1, 11, -1, 1, 15, 2000, 0, 0]) ws (vs) := by
    refine ⟨fun n hn => ?_, ?_⟩
    · have hn : n ∈ [0, 0, 18] := hn
      rw [hl]
      simp only [List.mem_cons, List.not_mem_nil, or_false] at hn
      show n < 20; omega
    · show 1 * w_fi ws (n_v vs 0) 11 + ((-1) * w_fi ws (n_v vs 0) 15 + (2000 * v_iv (n_v vs 18) + 0)) ≤ 2008
      omega
  refine ⟨(fun _ h => (by cases h)), [], trivial, ?_, (fun _ h => (by cases h))⟩
  rw [List.append_nil]
  exact List.forall_mem_cons.mpr ⟨⟨show (20 : Nat) < 100 from by decide, nf0⟩, (fun _ h => (by cases h))⟩
def o_Mo_known_5 : or_T := (35, 20, [(0, (2, 0, 0, [150])), (1, (0, 0, 23, [])), (2, (0, 1, 1, [])), (3, (0, 0, 7, [])), (4, (0, 1, 2000, [])), (5, (0, 0, 1999, [])), (6, (0, 1, 2000, [])), (7, (2, 0, 0, [152])), (8, (0, 0, 66297, [])), (9, (0, 3, 3, [])), (10, (0, 3, 66300, [])), (11, (0, 8, 8, [])), (12, (0, 0, 184, [])), (13, (0, 3, 66484, [])), (14, (0, 3, 66491, [])), (15, (0, -1, 255, [])), (16, (0, 0, 1999, [])), (17, (0, 0, 255, [])), (18, (0, 0, 0, [])), (19, (0, 1, 8, []))], [(6, [19, 3], [1]), (7, [15, 17], [1]), (20, [16, 0, 17], [50, 1, 1, 1010, 1001, 4, 11, 0, 6, 4, 2, 1, 0, 0, 1, 2, 1, 10, 1, 2, 1, 2, 9, 5, 3, 1, 1, 1, 0, 0, 256]), (20, [0, 16, 17], [50, 1, 0, 10, 4, 7, 0, 3, 2, 0, 10, 1, 1, 1, 2, 1, 2, 0, -1]), (1, [16, 5, 3], []), (9, [5, 0], [15]), (10, [15, 7, 14], []), (1, [14, 13, 3], []), (1, [13, 10, 12], []), (3, [12, 11, 1], []), (1, [10, 8, 9], []), (9, [8, 0], [5]), (9, [7, 0], [2]), (8, [2], [1]), (7, [3, 6], [2]), (2, [6, 4, 5], []), (9, [4, 0], [11]), (20, [0, 0, 2], [30, 2008, 1, 1, 11, -1, 1, 15, 2000, 0, 0])], [], [], [(20, [0, 0, 18], [30, 2008, 1, 1, 11, -1, 1, 15, 2000, 0, 0])], [], [(19, 3, 1, 1), (19, 6, -4294967296, 0), (16, 3, 0, 2000), (16, 6, -4294967296, 1999), (16, 5, 0, 7), (14, 3, 3, 66484), (14, 6, -4294967296, 66483), (14, 13, 0, 7), (14, 12, 3, 66307), (14, 10, 0, 191), (14, 8, 3, 194), (13, 12, 3, 66300), (13, 10, 0, 184), (13, 8, 3, 187), (10, 8, 3, 3), (3, 6, -4294967296, -1), (6, 4, -2000, 0), (2, 1, -4294967296, 1), (2, 3, -4294967296, 1)])
theorem oo_Mo_known_5 {kA : Nat → ClassId} : or_ok kA GG o_Mo_known_5 := by
  intro A ta ws vs hD hth hl hk hds hf
  have hl : vs.length = 20 := hl
  have hk : ∀ q ∈ ([(0, (2, 0, 0, [150])), (1, (0, 0, 23, [])), (2, (0, 1, 1, [])), (3, (0, 0, 7, [])), (4, (0, 1, 2000, [])), (5, (0, 0, 1999, [])), (6, (0, 1, 2000, [])), (7, (2, 0, 0, [152])), (8, (0, 0, 66297, [])), (9, (0, 3, 3, [])), (10, (0, 3, 66300, [])), (11, (0, 8, 8, [])), (12, (0, 0, 184, [])), (13, (0, 3, 66484, [])), (14, (0, 3, 66491, [])), (15, (0, -1, 255, [])), (16, (0, 0, 1999, [])), (17, (0, 0, 255, [])), (18, (0, 0, 0, [])), (19, (0, 1, 8, []))] : List (Nat × tv_T)), tv_ok ta q.2 (n_v vs q.1) := hk
  obtain ⟨t0, hk⟩ := List.forall_mem_cons.mp hk
  have t0 : tv_ok ta (2, 0, 0, [150]) (n_v vs 0) := t0
  have r0 : ta (v_ad (n_v vs 0)) = some 150 := tv_rg t0
  obtain ⟨t1, hk⟩ := List.forall_mem_cons.mp hk
  have t1 : tv_ok ta (0, 0, 23, []) (n_v vs 1) := t1
  have k1 : 0 ≤ v_iv (n_v vs 1) ∧ v_iv (n_v vs 1) ≤ 23 := tv_rng t1
  obtain ⟨t2, hk⟩ := List.forall_mem_cons.mp hk
  have t2 : tv_ok ta (0, 1, 1, []) (n_v vs 2) := t2
  have k2 : 1 ≤ v_iv (n_v vs 2) ∧ v_iv (n_v vs 2) ≤ 1 := tv_rng t2
  obtain ⟨t3, hk⟩ := List.forall_mem_cons.mp hk
  have t3 : tv_ok ta (0, 0, 7, []) (n_v vs 3) := t3
  have k3 : 0 ≤ v_iv (n_v vs 3) ∧ v_iv (n_v vs 3) ≤ 7 := tv_rng t3
  obtain ⟨t4, hk⟩ := List.forall_mem_cons.mp hk
  have t4 : tv_ok ta (0, 1, 2000, []) (n_v vs 4) := t4
  have k4 : 1 ≤ v_iv (n_v vs 4) ∧ v_iv (n_v vs 4) ≤ 2000 := tv_rng t4
  obtain ⟨t5, hk⟩ := List.forall_mem_cons.mp hk
  have t5 : tv_ok ta (0, 0, 1999, []) (n_v vs 5) := t5
  have k5 : 0 ≤ v_iv (n_v vs 5) ∧ v_iv (n_v vs 5) ≤ 1999 := tv_rng t5
  obtain ⟨t6, hk⟩ := List.forall_mem_cons.mp hk
  have t6 : tv_ok ta (0, 1, 2000, []) (n_v vs 6) := t6
  have k6 : 1 ≤ v_iv (n_v vs 6) ∧ v_iv (n_v vs 6) ≤ 2000 := tv_rng t6
  obtain ⟨t7, hk⟩ := List.forall_mem_cons.mp hk
  have t7 : tv_ok ta (2, 0, 0, [152]) (n_v vs 7) := t7
  have r7 : ta (v_ad (n_v vs 7)) = some 152 := tv_rg t7
  obtain ⟨t8, hk⟩ := List.forall_mem_cons.mp hk
  have t8 : tv_ok ta (0, 0, 66297, []) (n_v vs 8) := t8
  have k8 : 0 ≤ v_iv (n_v vs 8) ∧ v_iv (n_v vs 8) ≤ 66297 := tv_rng t8
  obtain ⟨t9, hk⟩ := List.forall_mem_cons.mp hk
  have t9 : tv_ok ta (0, 3, 3, []) (n_v vs 9) := t9
  have k9 : 3 ≤ v_iv (n_v vs 9) ∧ v_iv (n_v vs 9) ≤ 3 := tv_rng t9
  obtain ⟨t10, hk⟩ := List.forall_mem_cons.mp hk
  have t10 : tv_ok ta (0, 3, 66300, []) (n_v vs 10) := t10
  have k10 : 3 ≤ v_iv (n_v vs 10) ∧ v_iv (n_v vs 10) ≤ 66300 := tv_rng t10
  obtain ⟨t11, hk⟩ := List.forall_mem_cons.mp hk
  have t11 : tv_ok ta (0, 8, 8, []) (n_v vs 11) := t11
  have k11 : 8 ≤ v_iv (n_v vs 11) ∧ v_iv (n_v vs 11) ≤ 8 := tv_rng t11
  obtain ⟨t12, hk⟩ := List.forall_mem_cons.mp hk
  have t12 : tv_ok ta (0, 0, 184, []) (n_v vs 12) := t12
  have k12 : 0 ≤ v_iv (n_v vs 12) ∧ v_iv (n_v vs 12) ≤ 184 := tv_rng t12
  obtain ⟨t13, hk⟩ := List.forall_mem_cons.mp hk
  have t13 : tv_ok ta (0, 3, 66484, []) (n_v vs 13) := t13
  have k13 : 3 ≤ v_iv (n_v vs 13) ∧ v_iv (n_v vs 13) ≤ 66484 := tv_rng t13
  obtain ⟨t14, hk⟩ := List.forall_mem_cons.mp hk
  have t14 : tv_ok ta (0, 3, 66491, []) (n_v vs 14) := t14
  have k14 : 3 ≤ v_iv (n_v vs 14) ∧ v_iv (n_v vs 14) ≤ 66491 := tv_rng t14
  obtain ⟨t15, hk⟩ := List.forall_mem_cons.mp hk
  have t15 : tv_ok ta (0, -1, 255, []) (n_v vs 15) := t15
  have k15 : (-1) ≤ v_iv (n_v vs 15) ∧ v_iv (n_v vs 15) ≤ 255 := tv_rng t15
  obtain ⟨t16, hk⟩ := List.forall_mem_cons.mp hk
  have t16 : tv_ok ta (0, 0, 1999, []) (n_v vs 16) := t16
  have k16 : 0 ≤ v_iv (n_v vs 16) ∧ v_iv (n_v vs 16) ≤ 1999 := tv_rng t16
  obtain ⟨t17, hk⟩ := List.forall_mem_cons.mp hk
  have t17 : tv_ok ta (0, 0, 255, []) (n_v vs 17) := t17
  have k17 : 0 ≤ v_iv (n_v vs 17) ∧ v_iv (n_v vs 17) ≤ 255 := tv_rng t17
  obtain ⟨t18, hk⟩ := List.forall_mem_cons.mp hk
  have t18 : tv_ok ta (0, 0, 0, []) (n_v vs 18) := t18
  have k18 : 0 ≤ v_iv (n_v vs 18) ∧ v_iv (n_v vs 18) ≤ 0 := tv_rng t18
  obtain ⟨t19, hk⟩ := List.forall_mem_cons.mp hk
  have t19 : tv_ok ta (0, 1, 8, []) (n_v vs 19) := t19
  have k19 : 1 ≤ v_iv (n_v vs 19) ∧ v_iv (n_v vs 19) ≤ 8 := tv_rng t19
  have hds : ∀ q ∈ ([(19, 3, 1, 1), (19, 6, -4294967296, 0), (16, 3, 0, 2000), (16, 6, -4294967296, 1999), (16, 5, 0, 7), (14, 3, 3, 66484), (14, 6, -4294967296, 66483), (14, 13, 0, 7), (14, 12, 3, 66307), (14, 10, 0, 191), (14, 8, 3, 194), (13, 12, 3, 66300), (13, 10, 0, 184), (13, 8, 3, 187), (10, 8, 3, 3), (3, 6, -4294967296, -1), (6, 4, -2000, 0), (2, 1, -4294967296, 1), (2, 3, -4294967296, 1)] : List of_T), n_iv vs q.2.1 + q.2.2.1 ≤ n_iv vs q.1 ∧ n_iv vs q.1 ≤ n_iv vs q.2.1 + q.2.2.2 := hds
  obtain ⟨d0, hds⟩ := List.forall_mem_cons.mp hds
  have d0 : v_iv (n_v vs 3) + 1 ≤ v_iv (n_v vs 19) ∧ v_iv (n_v vs 19) ≤ v_iv (n_v vs 3) + 1 := d0
  obtain ⟨d1, hds⟩ := List.forall_mem_cons.mp hds
  have d1 : v_iv (n_v vs 6) + (-4294967296) ≤ v_iv (n_v vs 19) ∧ v_iv (n_v vs 19) ≤ v_iv (n_v vs 6) + 0 := d1
  obtain ⟨d2, hds⟩ := List.forall_mem_cons.mp hds
  have d2 : v_iv (n_v vs 3) + 0 ≤ v_iv (n_v vs 16) ∧ v_iv (n_v vs 16) ≤ v_iv (n_v vs 3) + 2000 := d2
  obtain ⟨d3, hds⟩ := List.forall_mem_cons.mp hds
  have d3 : v_iv (n_v vs 6) + (-4294967296) ≤ v_iv (n_v vs 16) ∧ v_iv (n_v vs 16) ≤ v_iv (n_v vs 6) + 1999 := d3
  obtain ⟨d4, hds⟩ := List.forall_mem_cons.mp hds
  have d4 : v_iv (n_v vs 5) + 0 ≤ v_iv (n_v vs 16) ∧ v_iv (n_v vs 16) ≤ v_iv (n_v vs 5) + 7 := d4
  obtain ⟨d5, hds⟩ := List.forall_mem_cons.mp hds
  have d5 : v_iv (n_v vs 3) + 3 ≤ v_iv (n_v vs 14) ∧ v_iv (n_v vs 14) ≤ v_iv (n_v vs 3) + 66484 := d5
  obtain ⟨d6, hds⟩ := List.forall_mem_cons.mp hds
  have d6 : v_iv (n_v vs 6) + (-4294967296) ≤ v_iv (n_v vs 14) ∧ v_iv (n_v vs 14) ≤ v_iv (n_v vs 6) + 66483 := d6
  obtain ⟨d7, hds⟩ := List.forall_mem_cons.mp hds
  have d7 : v_iv (n_v vs 13) + 0 ≤ v_iv (n_v vs 14) ∧ v_iv (n_v vs 14) ≤ v_iv (n_v vs 13) + 7 := d7
  obtain ⟨d8, hds⟩ := List.forall_mem_cons.mp hds
  have d8 : v_iv (n_v vs 12) + 3 ≤ v_iv (n_v vs 14) ∧ v_iv (n_v vs 14) ≤ v_iv (n_v vs 12) + 66307 := d8
  obtain ⟨d9, hds⟩ := List.forall_mem_cons.mp hds
  have d9 : v_iv (n_v vs 10) + 0 ≤ v_iv (n_v vs 14) ∧ v_iv (n_v vs 14) ≤ v_iv (n_v vs 10) + 191 := d9
  obtain ⟨d10, hds⟩ := List.forall_mem_cons.mp hds
  have d10 : v_iv (n_v vs 8) + 3 ≤ v_iv (n_v vs 14) ∧ v_iv (n_v vs 14) ≤ v_iv (n_v vs 8) + 194 := d10
  obtain ⟨d11, hds⟩ := List.forall_mem_cons.mp hds
  have d11 : v_iv (n_v vs 12) + 3 ≤ v_iv (n_v vs 13) ∧ v_iv (n_v vs 13) ≤ v_iv (n_v vs 12) + 66300 := d11
  obtain ⟨d12, hds⟩ := List.forall_mem_cons.mp hds
  have d12 : v_iv (n_v vs 10) + 0 ≤ v_iv (n_v vs 13) ∧ v_iv (n_v vs 13) ≤ v_iv (n_v vs 10) + 184 := d12
  obtain ⟨d13, hds⟩ := List.forall_mem_cons.mp hds
  have d13 : v_iv (n_v vs 8) + 3 ≤ v_iv (n_v vs 13) ∧ v_iv (n_v vs 13) ≤ v_iv (n_v vs 8) + 187 := d13
  obtain ⟨d14, hds⟩ := List.forall_mem_cons.mp hds
  have d14 : v_iv (n_v vs 8) + 3 ≤ v_iv (n_v vs 10) ∧ v_iv (n_v vs 10) ≤ v_iv (n_v vs 8) + 3 := d14
  obtain ⟨d15, hds⟩ := List.forall_mem_cons.mp hds
  have d15 : v_iv (n_v vs 6) + (-4294967296) ≤ v_iv (n_v vs 3) ∧ v_iv (n_v vs 3) ≤ v_iv (n_v vs 6) + (-1) := d15
  obtain ⟨d16, hds⟩ := List.forall_mem_cons.mp hds
  have d16 : v_iv (n_v vs 4) + (-2000) ≤ v_iv (n_v vs 6) ∧ v_iv (n_v vs 6) ≤ v_iv (n_v vs 4) + 0 := d16
  obtain ⟨d17, hds⟩ := List.forall_mem_cons.mp hds
  have d17 : v_iv (n_v vs 1) + (-4294967296) ≤ v_iv (n_v vs 2) ∧ v_iv (n_v vs 2) ≤ v_iv (n_v vs 1) + 1 := d17
  obtain ⟨d18, hds⟩ := List.forall_mem_cons.mp hds
  have d18 : v_iv (n_v vs 3) + (-4294967296) ≤ v_iv (n_v vs 2) ∧ v_iv (n_v vs 2) ≤ v_iv (n_v vs 3) + 1 := d18
  have hf : fc_ok [(6, [19, 3], [1]), (7, [15, 17], [1]), (20, [16, 0, 17], [50, 1, 1, 1010, 1001, 4, 11, 0, 6, 4, 2, 1, 0, 0, 1, 2, 1, 10, 1, 2, 1, 2, 9, 5, 3, 1, 1, 1, 0, 0, 256]), (20, [0, 16, 17], [50, 1, 0, 10, 4, 7, 0, 3, 2, 0, 10, 1, 1, 1, 2, 1, 2, 0, -1]), (1, [16, 5, 3], []), (9, [5, 0], [15]), (10, [15, 7, 14], []), (1, [14, 13, 3], []), (1, [13, 10, 12], []), (3, [12, 11, 1], []), (1, [10, 8, 9], []), (9, [8, 0], [5]), (9, [7, 0], [2]), (8, [2], [1]), (7, [3, 6], [2]), (2, [6, 4, 5], []), (9, [4, 0], [11]), (20, [0, 0, 2], [30, 2008, 1, 1, 11, -1, 1, 15, 2000, 0, 0])] ta ws vs := hf
  obtain ⟨f0, hf⟩ := fc_un (show (6 : Nat) < 100 from by decide) hf
  have f0 : v_iv (n_v vs 19) = v_iv (n_v vs 3) + 1 := f0
  obtain ⟨f1, hf⟩ := fc_un (show (7 : Nat) < 100 from by decide) hf
  have f1 : v_iv (n_v vs 15) ≠ v_iv (n_v vs 17) := f1
  obtain ⟨f2, hf⟩ := fc_un (show (20 : Nat) < 100 from by decide) hf
  have f2 : ((v_iv (n_v vs 16) + 1) ≤ w_fi ws (n_v vs 0) 10) → (v_iv (n_v vs 17) = (w_ei ws (w_ar ws (n_v vs 0) 1) (v_iv (n_v vs 16)) % 256)) := f2
  obtain ⟨f3, hf⟩ := fc_un (show (20 : Nat) < 100 from by decide) hf
  have f3 : (w_fi ws (n_v vs 0) 10 ≤ v_iv (n_v vs 16)) → (v_iv (n_v vs 17) = (-1)) := f3
  obtain ⟨f4, hf⟩ := fc_un (show (1 : Nat) < 100 from by decide) hf
  have f4 : v_iv (n_v vs 16) = v_iv (n_v vs 5) + v_iv (n_v vs 3) := f4
  obtain ⟨f5, hf⟩ := fc_un (show (9 : Nat) < 100 from by decide) hf
  have f5 : n_v vs 5 = w_fd ws (v_ad (n_v vs 0)) 15 := f5
  obtain ⟨f6, hf⟩ := fc_un (show (10 : Nat) < 100 from by decide) hf
  have f6 : v_iv (n_v vs 15) = w_el ws (v_ad (n_v vs 7)) (v_iv (n_v vs 14)).toNat := f6
  obtain ⟨f7, hf⟩ := fc_un (show (1 : Nat) < 100 from by decide) hf
  have f7 : v_iv (n_v vs 14) = v_iv (n_v vs 13) + v_iv (n_v vs 3) := f7
  obtain ⟨f8, hf⟩ := fc_un (show (1 : Nat) < 100 from by decide) hf
  have f8 : v_iv (n_v vs 13) = v_iv (n_v vs 10) + v_iv (n_v vs 12) := f8
  obtain ⟨f9, hf⟩ := fc_un (show (3 : Nat) < 100 from by decide) hf
  have f9 : v_iv (n_v vs 12) = v_iv (n_v vs 11) * v_iv (n_v vs 1) := f9
  rw [show v_iv (n_v vs 11) = 8 from by omega] at f9
  obtain ⟨f10, hf⟩ := fc_un (show (1 : Nat) < 100 from by decide) hf
  have f10 : v_iv (n_v vs 10) = v_iv (n_v vs 8) + v_iv (n_v vs 9) := f10
  obtain ⟨f11, hf⟩ := fc_un (show (9 : Nat) < 100 from by decide) hf
  have f11 : n_v vs 8 = w_fd ws (v_ad (n_v vs 0)) 5 := f11
  obtain ⟨f12, hf⟩ := fc_un (show (9 : Nat) < 100 from by decide) hf
  have f12 : n_v vs 7 = w_fd ws (v_ad (n_v vs 0)) 2 := f12
  obtain ⟨f13, hf⟩ := fc_un (show (8 : Nat) < 100 from by decide) hf
  have f13 : v_iv (n_v vs 2) ≠ 0 := f13
  obtain ⟨f14, hf⟩ := fc_un (show (7 : Nat) < 100 from by decide) hf
  have f14 : v_iv (n_v vs 3) < v_iv (n_v vs 6) := f14
  obtain ⟨f15, hf⟩ := fc_un (show (2 : Nat) < 100 from by decide) hf
  have f15 : v_iv (n_v vs 6) = v_iv (n_v vs 4) - v_iv (n_v vs 5) := f15
  obtain ⟨f16, hf⟩ := fc_un (show (9 : Nat) < 100 from by decide) hf
  have f16 : n_v vs 4 = w_fd ws (v_ad (n_v vs 0)) 11 := f16
  obtain ⟨f17, hf⟩ := fc_un (show (20 : Nat) < 100 from by decide) hf
  have f17 : 1 * w_fi ws (n_v vs 0) 11 + ((-1) * w_fi ws (n_v vs 0) 15 + (2000 * v_iv (n_v vs 2) + 0)) ≤ 2008 := f17
  have cr_0_1 : ta (w_ar ws (n_v vs 0) 1) = some 151 := tv_rg (th_fd hD hth r0 (g := GG_150) rfl (k := 1) (t := (2, 0, 0, [151])) rfl rfl)
  have cr_0_2 : ta (w_ar ws (n_v vs 0) 2) = some 152 := tv_rg (th_fd hD hth r0 (g := GG_150) rfl (k := 2) (t := (2, 0, 0, [152])) rfl rfl)
  have ad_7 : v_ad (n_v vs 7) = w_ar ws (n_v vs 0) 2 := congrArg v_ad f12
  have g5 : v_iv (n_v vs 5) = w_fi ws (n_v vs 0) 15 := congrArg v_iv f5
  rw [ad_7] at f6
  have g11 : v_iv (n_v vs 8) = w_fi ws (n_v vs 0) 5 := congrArg v_iv f11
  have g16 : v_iv (n_v vs 4) = w_fi ws (n_v vs 0) 11 := congrArg v_iv f16
  have hK_0_1 : ∀ j : Int, 0 ≤ j → j < 2000 → (-128) ≤ w_ei ws (w_ar ws (n_v vs 0) 1) j ∧ w_ei ws (w_ar ws (n_v vs 0) 1) j ≤ 127 := fun j h0 h1 => th_el hD hth cr_0_1 (kd := 1) (n := 2000) (m := 2000) (lo := (-128)) (hi := 127) (rs := []) (L := []) rfl (by decide) (j := j.toNat) (by omega)
  have kz_0_10 : 0 ≤ w_fi ws (n_v vs 0) 10 ∧ w_fi ws (n_v vs 0) 10 ≤ 2000 := tv_rng (th_fd hD hth r0 (g := GG_150) rfl (k := 10) (t := (0, 0, 2000, [])) rfl rfl)
  have kz_0_11 : 0 ≤ w_fi ws (n_v vs 0) 11 ∧ w_fi ws (n_v vs 0) 11 ≤ 2000 := tv_rng (th_fd hD hth r0 (g := GG_150) rfl (k := 11) (t := (0, 0, 2000, [])) rfl rfl)
  have kz_0_15 : 0 ≤ w_fi ws (n_v vs 0) 15 ∧ w_fi ws (n_v vs 0) 15 ≤ 2000 := tv_rng (th_fd hD hth r0 (g := GG_150) rfl (k := 15) (t := (0, 0, 2000, [])) rfl rfl)
  have nf0 : fc_1 (20, [0, 0, 18], [30, 2008, 1, 1, 11, -1, 1, 15, 2000, 0, 0]) ws (vs) := by
    refine ⟨fun n hn => ?_, ?_⟩
    · have hn : n ∈ [0, 0, 18] := hn
      rw [hl]
      simp only [List.mem_cons, List.not_mem_nil, or_false] at hn
      show n < 20; omega
    · show 1 * w_fi ws (n_v vs 0) 11 + ((-1) * w_fi ws (n_v vs 0) 15 + (2000 * v_iv (n_v vs 18) + 0)) ≤ 2008
      omega
  refine ⟨(fun _ h => (by cases h)), [], trivial, ?_, (fun _ h => (by cases h))⟩
  rw [List.append_nil]
  exact List.forall_mem_cons.mpr ⟨⟨show (20 : Nat) < 100 from by decide, nf0⟩, (fun _ h => (by cases h))⟩
def o_Mo_known_6 : or_T := (35, 20, [(0, (2, 0, 0, [150])), (1, (0, 0, 23, [])), (2, (0, 1, 1, [])), (3, (0, 0, 7, [])), (4, (0, 1, 2000, [])), (5, (0, 0, 1999, [])), (6, (0, 1, 2000, [])), (7, (2, 0, 0, [152])), (8, (0, 0, 66297, [])), (9, (0, 3, 3, [])), (10, (0, 3, 66300, [])), (11, (0, 8, 8, [])), (12, (0, 0, 184, [])), (13, (0, 3, 66484, [])), (14, (0, 3, 66491, [])), (15, (0, 0, 255, [])), (16, (0, 0, 1999, [])), (17, (0, 0, 255, [])), (18, (0, 1, 1, [])), (19, (0, 1, 8, []))], [(6, [19, 3], [1]), (7, [15, 17], [0]), (20, [16, 0, 17], [50, 1, 1, 1010, 1001, 4, 11, 0, 6, 4, 2, 1, 0, 0, 1, 2, 1, 10, 1, 2, 1, 2, 9, 5, 3, 1, 1, 1, 0, 0, 256]), (20, [0, 16, 17], [50, 1, 0, 10, 4, 7, 0, 3, 2, 0, 10, 1, 1, 1, 2, 1, 2, 0, -1]), (1, [16, 5, 3], []), (9, [5, 0], [15]), (10, [15, 7, 14], []), (1, [14, 13, 3], []), (1, [13, 10, 12], []), (3, [12, 11, 1], []), (1, [10, 8, 9], []), (9, [8, 0], [5]), (9, [7, 0], [2]), (8, [2], [1]), (7, [3, 6], [2]), (2, [6, 4, 5], []), (9, [4, 0], [11]), (20, [0, 0, 2], [30, 2008, 1, 1, 11, -1, 1, 15, 2000, 0, 0])], [], [], [(20, [0, 0, 18], [30, 2008, 1, 1, 11, -1, 1, 15, 2000, 0, 0])], [], [(19, 3, 1, 1), (19, 6, -4294967296, 0), (15, 17, 0, 0), (16, 3, 0, 2000), (16, 6, -4294967296, 1999), (16, 5, 0, 7), (14, 3, 3, 66484), (14, 6, -4294967296, 66483), (14, 13, 0, 7), (14, 12, 3, 66307), (14, 10, 0, 191), (14, 8, 3, 194), (13, 12, 3, 66300), (13, 10, 0, 184), (13, 8, 3, 187), (10, 8, 3, 3), (3, 6, -4294967296, -1), (6, 4, -2000, 0), (2, 1, -4294967296, 1), (2, 3, -4294967296, 1)])
theorem oo_Mo_known_6 {kA : Nat → ClassId} : or_ok kA GG o_Mo_known_6 := by
  intro A ta ws vs hD hth hl hk hds hf
  have hl : vs.length = 20 := hl
  have hk : ∀ q ∈ ([(0, (2, 0, 0, [150])), (1, (0, 0, 23, [])), (2, (0, 1, 1, [])), (3, (0, 0, 7, [])), (4, (0, 1, 2000, [])), (5, (0, 0, 1999, [])), (6, (0, 1, 2000, [])), (7, (2, 0, 0, [152])), (8, (0, 0, 66297, [])), (9, (0, 3, 3, [])), (10, (0, 3, 66300, [])), (11, (0, 8, 8, [])), (12, (0, 0, 184, [])), (13, (0, 3, 66484, [])), (14, (0, 3, 66491, [])), (15, (0, 0, 255, [])), (16, (0, 0, 1999, [])), (17, (0, 0, 255, [])), (18, (0, 1, 1, [])), (19, (0, 1, 8, []))] : List (Nat × tv_T)), tv_ok ta q.2 (n_v vs q.1) := hk
  obtain ⟨t0, hk⟩ := List.forall_mem_cons.mp hk
  have t0 : tv_ok ta (2, 0, 0, [150]) (n_v vs 0) := t0
  have r0 : ta (v_ad (n_v vs 0)) = some 150 := tv_rg t0
  obtain ⟨t1, hk⟩ := List.forall_mem_cons.mp hk
  have t1 : tv_ok ta (0, 0, 23, []) (n_v vs 1) := t1
  have k1 : 0 ≤ v_iv (n_v vs 1) ∧ v_iv (n_v vs 1) ≤ 23 := tv_rng t1
  obtain ⟨t2, hk⟩ := List.forall_mem_cons.mp hk
  have t2 : tv_ok ta (0, 1, 1, []) (n_v vs 2) := t2
  have k2 : 1 ≤ v_iv (n_v vs 2) ∧ v_iv (n_v vs 2) ≤ 1 := tv_rng t2
  obtain ⟨t3, hk⟩ := List.forall_mem_cons.mp hk
  have t3 : tv_ok ta (0, 0, 7, []) (n_v vs 3) := t3
  have k3 : 0 ≤ v_iv (n_v vs 3) ∧ v_iv (n_v vs 3) ≤ 7 := tv_rng t3
  obtain ⟨t4, hk⟩ := List.forall_mem_cons.mp hk
  have t4 : tv_ok ta (0, 1, 2000, []) (n_v vs 4) := t4
  have k4 : 1 ≤ v_iv (n_v vs 4) ∧ v_iv (n_v vs 4) ≤ 2000 := tv_rng t4
  obtain ⟨t5, hk⟩ := List.forall_mem_cons.mp hk
  have t5 : tv_ok ta (0, 0, 1999, []) (n_v vs 5) := t5
  have k5 : 0 ≤ v_iv (n_v vs 5) ∧ v_iv (n_v vs 5) ≤ 1999 := tv_rng t5
  obtain ⟨t6, hk⟩ := List.forall_mem_cons.mp hk
  have t6 : tv_ok ta (0, 1, 2000, []) (n_v vs 6) := t6
  have k6 : 1 ≤ v_iv (n_v vs 6) ∧ v_iv (n_v vs 6) ≤ 2000 := tv_rng t6
  obtain ⟨t7, hk⟩ := List.forall_mem_cons.mp hk
  have t7 : tv_ok ta (2, 0, 0, [152]) (n_v vs 7) := t7
  have r7 : ta (v_ad (n_v vs 7)) = some 152 := tv_rg t7
  obtain ⟨t8, hk⟩ := List.forall_mem_cons.mp hk
  have t8 : tv_ok ta (0, 0, 66297, []) (n_v vs 8) := t8
  have k8 : 0 ≤ v_iv (n_v vs 8) ∧ v_iv (n_v vs 8) ≤ 66297 := tv_rng t8
  obtain ⟨t9, hk⟩ := List.forall_mem_cons.mp hk
  have t9 : tv_ok ta (0, 3, 3, []) (n_v vs 9) := t9
  have k9 : 3 ≤ v_iv (n_v vs 9) ∧ v_iv (n_v vs 9) ≤ 3 := tv_rng t9
  obtain ⟨t10, hk⟩ := List.forall_mem_cons.mp hk
  have t10 : tv_ok ta (0, 3, 66300, []) (n_v vs 10) := t10
  have k10 : 3 ≤ v_iv (n_v vs 10) ∧ v_iv (n_v vs 10) ≤ 66300 := tv_rng t10
  obtain ⟨t11, hk⟩ := List.forall_mem_cons.mp hk
  have t11 : tv_ok ta (0, 8, 8, []) (n_v vs 11) := t11
  have k11 : 8 ≤ v_iv (n_v vs 11) ∧ v_iv (n_v vs 11) ≤ 8 := tv_rng t11
  obtain ⟨t12, hk⟩ := List.forall_mem_cons.mp hk
  have t12 : tv_ok ta (0, 0, 184, []) (n_v vs 12) := t12
  have k12 : 0 ≤ v_iv (n_v vs 12) ∧ v_iv (n_v vs 12) ≤ 184 := tv_rng t12
  obtain ⟨t13, hk⟩ := List.forall_mem_cons.mp hk
  have t13 : tv_ok ta (0, 3, 66484, []) (n_v vs 13) := t13
  have k13 : 3 ≤ v_iv (n_v vs 13) ∧ v_iv (n_v vs 13) ≤ 66484 := tv_rng t13
  obtain ⟨t14, hk⟩ := List.forall_mem_cons.mp hk
  have t14 : tv_ok ta (0, 3, 66491, []) (n_v vs 14) := t14
  have k14 : 3 ≤ v_iv (n_v vs 14) ∧ v_iv (n_v vs 14) ≤ 66491 := tv_rng t14
  obtain ⟨t15, hk⟩ := List.forall_mem_cons.mp hk
  have t15 : tv_ok ta (0, 0, 255, []) (n_v vs 15) := t15
  have k15 : 0 ≤ v_iv (n_v vs 15) ∧ v_iv (n_v vs 15) ≤ 255 := tv_rng t15
  obtain ⟨t16, hk⟩ := List.forall_mem_cons.mp hk
  have t16 : tv_ok ta (0, 0, 1999, []) (n_v vs 16) := t16
  have k16 : 0 ≤ v_iv (n_v vs 16) ∧ v_iv (n_v vs 16) ≤ 1999 := tv_rng t16
  obtain ⟨t17, hk⟩ := List.forall_mem_cons.mp hk
  have t17 : tv_ok ta (0, 0, 255, []) (n_v vs 17) := t17
  have k17 : 0 ≤ v_iv (n_v vs 17) ∧ v_iv (n_v vs 17) ≤ 255 := tv_rng t17
  obtain ⟨t18, hk⟩ := List.forall_mem_cons.mp hk
  have t18 : tv_ok ta (0, 1, 1, []) (n_v vs 18) := t18
  have k18 : 1 ≤ v_iv (n_v vs 18) ∧ v_iv (n_v vs 18) ≤ 1 := tv_rng t18
  obtain ⟨t19, hk⟩ := List.forall_mem_cons.mp hk
  have t19 : tv_ok ta (0, 1, 8, []) (n_v vs 19) := t19
  have k19 : 1 ≤ v_iv (n_v vs 19) ∧ v_iv (n_v vs 19) ≤ 8 := tv_rng t19
  have hds : ∀ q ∈ ([(19, 3, 1, 1), (19, 6, -4294967296, 0), (15, 17, 0, 0), (16, 3, 0, 2000), (16, 6, -4294967296, 1999), (16, 5, 0, 7), (14, 3, 3, 66484), (14, 6, -4294967296, 66483), (14, 13, 0, 7), (14, 12, 3, 66307), (14, 10, 0, 191), (14, 8, 3, 194), (13, 12, 3, 66300), (13, 10, 0, 184), (13, 8, 3, 187), (10, 8, 3, 3), (3, 6, -4294967296, -1), (6, 4, -2000, 0), (2, 1, -4294967296, 1), (2, 3, -4294967296, 1)] : List of_T), n_iv vs q.2.1 + q.2.2.1 ≤ n_iv vs q.1 ∧ n_iv vs q.1 ≤ n_iv vs q.2.1 + q.2.2.2 := hds
  obtain ⟨d0, hds⟩ := List.forall_mem_cons.mp hds
  have d0 : v_iv (n_v vs 3) + 1 ≤ v_iv (n_v vs 19) ∧ v_iv (n_v vs 19) ≤ v_iv (n_v vs 3) + 1 := d0
  obtain ⟨d1, hds⟩ := List.forall_mem_cons.mp hds
  have d1 : v_iv (n_v vs 6) + (-4294967296) ≤ v_iv (n_v vs 19) ∧ v_iv (n_v vs 19) ≤ v_iv (n_v vs 6) + 0 := d1
  obtain ⟨d2, hds⟩ := List.forall_mem_cons.mp hds
  have d2 : v_iv (n_v vs 17) + 0 ≤ v_iv (n_v vs 15) ∧ v_iv (n_v vs 15) ≤ v_iv (n_v vs 17) + 0 := d2
  obtain ⟨d3, hds⟩ := List.forall_mem_cons.mp hds
  have d3 : v_iv (n_v vs 3) + 0 ≤ v_iv (n_v vs 16) ∧ v_iv (n_v vs 16) ≤ v_iv (n_v vs 3) + 2000 := d3
  obtain ⟨d4, hds⟩ := List.forall_mem_cons.mp hds
  have d4 : v_iv (n_v vs 6) + (-4294967296) ≤ v_iv (n_v vs 16) ∧ v_iv (n_v vs 16) ≤ v_iv (n_v vs 6) + 1999 := d4
  obtain ⟨d5, hds⟩ := List.forall_mem_cons.mp hds
  have d5 : v_iv (n_v vs 5) + 0 ≤ v_iv (n_v vs 16) ∧ v_iv (n_v vs 16) ≤ v_iv (n_v vs 5) + 7 := d5
  obtain ⟨d6, hds⟩ := List.forall_mem_cons.mp hds
  have d6 : v_iv (n_v vs 3) + 3 ≤ v_iv (n_v vs 14) ∧ v_iv (n_v vs 14) ≤ v_iv (n_v vs 3) + 66484 := d6
  obtain ⟨d7, hds⟩ := List.forall_mem_cons.mp hds
  have d7 : v_iv (n_v vs 6) + (-4294967296) ≤ v_iv (n_v vs 14) ∧ v_iv (n_v vs 14) ≤ v_iv (n_v vs 6) + 66483 := d7
  obtain ⟨d8, hds⟩ := List.forall_mem_cons.mp hds
  have d8 : v_iv (n_v vs 13) + 0 ≤ v_iv (n_v vs 14) ∧ v_iv (n_v vs 14) ≤ v_iv (n_v vs 13) + 7 := d8
  obtain ⟨d9, hds⟩ := List.forall_mem_cons.mp hds
  have d9 : v_iv (n_v vs 12) + 3 ≤ v_iv (n_v vs 14) ∧ v_iv (n_v vs 14) ≤ v_iv (n_v vs 12) + 66307 := d9
  obtain ⟨d10, hds⟩ := List.forall_mem_cons.mp hds
  have d10 : v_iv (n_v vs 10) + 0 ≤ v_iv (n_v vs 14) ∧ v_iv (n_v vs 14) ≤ v_iv (n_v vs 10) + 191 := d10
  obtain ⟨d11, hds⟩ := List.forall_mem_cons.mp hds
  have d11 : v_iv (n_v vs 8) + 3 ≤ v_iv (n_v vs 14) ∧ v_iv (n_v vs 14) ≤ v_iv (n_v vs 8) + 194 := d11
  obtain ⟨d12, hds⟩ := List.forall_mem_cons.mp hds
  have d12 : v_iv (n_v vs 12) + 3 ≤ v_iv (n_v vs 13) ∧ v_iv (n_v vs 13) ≤ v_iv (n_v vs 12) + 66300 := d12
  obtain ⟨d13, hds⟩ := List.forall_mem_cons.mp hds
  have d13 : v_iv (n_v vs 10) + 0 ≤ v_iv (n_v vs 13) ∧ v_iv (n_v vs 13) ≤ v_iv (n_v vs 10) + 184 := d13
  obtain ⟨d14, hds⟩ := List.forall_mem_cons.mp hds
  have d14 : v_iv (n_v vs 8) + 3 ≤ v_iv (n_v vs 13) ∧ v_iv (n_v vs 13) ≤ v_iv (n_v vs 8) + 187 := d14
  obtain ⟨d15, hds⟩ := List.forall_mem_cons.mp hds
  have d15 : v_iv (n_v vs 8) + 3 ≤ v_iv (n_v vs 10) ∧ v_iv (n_v vs 10) ≤ v_iv (n_v vs 8) + 3 := d15
  obtain ⟨d16, hds⟩ := List.forall_mem_cons.mp hds
  have d16 : v_iv (n_v vs 6) + (-4294967296) ≤ v_iv (n_v vs 3) ∧ v_iv (n_v vs 3) ≤ v_iv (n_v vs 6) + (-1) := d16
  obtain ⟨d17, hds⟩ := List.forall_mem_cons.mp hds
  have d17 : v_iv (n_v vs 4) + (-2000) ≤ v_iv (n_v vs 6) ∧ v_iv (n_v vs 6) ≤ v_iv (n_v vs 4) + 0 := d17
  obtain ⟨d18, hds⟩ := List.forall_mem_cons.mp hds
  have d18 : v_iv (n_v vs 1) + (-4294967296) ≤ v_iv (n_v vs 2) ∧ v_iv (n_v vs 2) ≤ v_iv (n_v vs 1) + 1 := d18
  obtain ⟨d19, hds⟩ := List.forall_mem_cons.mp hds
  have d19 : v_iv (n_v vs 3) + (-4294967296) ≤ v_iv (n_v vs 2) ∧ v_iv (n_v vs 2) ≤ v_iv (n_v vs 3) + 1 := d19
  have hf : fc_ok [(6, [19, 3], [1]), (7, [15, 17], [0]), (20, [16, 0, 17], [50, 1, 1, 1010, 1001, 4, 11, 0, 6, 4, 2, 1, 0, 0, 1, 2, 1, 10, 1, 2, 1, 2, 9, 5, 3, 1, 1, 1, 0, 0, 256]), (20, [0, 16, 17], [50, 1, 0, 10, 4, 7, 0, 3, 2, 0, 10, 1, 1, 1, 2, 1, 2, 0, -1]), (1, [16, 5, 3], []), (9, [5, 0], [15]), (10, [15, 7, 14], []), (1, [14, 13, 3], []), (1, [13, 10, 12], []), (3, [12, 11, 1], []), (1, [10, 8, 9], []), (9, [8, 0], [5]), (9, [7, 0], [2]), (8, [2], [1]), (7, [3, 6], [2]), (2, [6, 4, 5], []), (9, [4, 0], [11]), (20, [0, 0, 2], [30, 2008, 1, 1, 11, -1, 1, 15, 2000, 0, 0])] ta ws vs := hf
  obtain ⟨f0, hf⟩ := fc_un (show (6 : Nat) < 100 from by decide) hf
  have f0 : v_iv (n_v vs 19) = v_iv (n_v vs 3) + 1 := f0
  obtain ⟨f1, hf⟩ := fc_un (show (7 : Nat) < 100 from by decide) hf
  have f1 : v_iv (n_v vs 15) = v_iv (n_v vs 17) := f1
  obtain ⟨f2, hf⟩ := fc_un (show (20 : Nat) < 100 from by decide) hf
  have f2 : ((v_iv (n_v vs 16) + 1) ≤ w_fi ws (n_v vs 0) 10) → (v_iv (n_v vs 17) = (w_ei ws (w_ar ws (n_v vs 0) 1) (v_iv (n_v vs 16)) % 256)) := f2
  obtain ⟨f3, hf⟩ := fc_un (show (20 : Nat) < 100 from by decide) hf
  have f3 : (w_fi ws (n_v vs 0) 10 ≤ v_iv (n_v vs 16)) → (v_iv (n_v vs 17) = (-1)) := f3
  obtain ⟨f4, hf⟩ := fc_un (show (1 : Nat) < 100 from by decide) hf
  have f4 : v_iv (n_v vs 16) = v_iv (n_v vs 5) + v_iv (n_v vs 3) := f4
  obtain ⟨f5, hf⟩ := fc_un (show (9 : Nat) < 100 from by decide) hf
  have f5 : n_v vs 5 = w_fd ws (v_ad (n_v vs 0)) 15 := f5
  obtain ⟨f6, hf⟩ := fc_un (show (10 : Nat) < 100 from by decide) hf
  have f6 : v_iv (n_v vs 15) = w_el ws (v_ad (n_v vs 7)) (v_iv (n_v vs 14)).toNat := f6
  obtain ⟨f7, hf⟩ := fc_un (show (1 : Nat) < 100 from by decide) hf
  have f7 : v_iv (n_v vs 14) = v_iv (n_v vs 13) + v_iv (n_v vs 3) := f7
  obtain ⟨f8, hf⟩ := fc_un (show (1 : Nat) < 100 from by decide) hf
  have f8 : v_iv (n_v vs 13) = v_iv (n_v vs 10) + v_iv (n_v vs 12) := f8
  obtain ⟨f9, hf⟩ := fc_un (show (3 : Nat) < 100 from by decide) hf
  have f9 : v_iv (n_v vs 12) = v_iv (n_v vs 11) * v_iv (n_v vs 1) := f9
  rw [show v_iv (n_v vs 11) = 8 from by omega] at f9
  obtain ⟨f10, hf⟩ := fc_un (show (1 : Nat) < 100 from by decide) hf
  have f10 : v_iv (n_v vs 10) = v_iv (n_v vs 8) + v_iv (n_v vs 9) := f10
  obtain ⟨f11, hf⟩ := fc_un (show (9 : Nat) < 100 from by decide) hf
  have f11 : n_v vs 8 = w_fd ws (v_ad (n_v vs 0)) 5 := f11
  obtain ⟨f12, hf⟩ := fc_un (show (9 : Nat) < 100 from by decide) hf
  have f12 : n_v vs 7 = w_fd ws (v_ad (n_v vs 0)) 2 := f12
  obtain ⟨f13, hf⟩ := fc_un (show (8 : Nat) < 100 from by decide) hf
  have f13 : v_iv (n_v vs 2) ≠ 0 := f13
  obtain ⟨f14, hf⟩ := fc_un (show (7 : Nat) < 100 from by decide) hf
  have f14 : v_iv (n_v vs 3) < v_iv (n_v vs 6) := f14
  obtain ⟨f15, hf⟩ := fc_un (show (2 : Nat) < 100 from by decide) hf
  have f15 : v_iv (n_v vs 6) = v_iv (n_v vs 4) - v_iv (n_v vs 5) := f15
  obtain ⟨f16, hf⟩ := fc_un (show (9 : Nat) < 100 from by decide) hf
  have f16 : n_v vs 4 = w_fd ws (v_ad (n_v vs 0)) 11 := f16
  obtain ⟨f17, hf⟩ := fc_un (show (20 : Nat) < 100 from by decide) hf
  have f17 : 1 * w_fi ws (n_v vs 0) 11 + ((-1) * w_fi ws (n_v vs 0) 15 + (2000 * v_iv (n_v vs 2) + 0)) ≤ 2008 := f17
  have cr_0_1 : ta (w_ar ws (n_v vs 0) 1) = some 151 := tv_rg (th_fd hD hth r0 (g := GG_150) rfl (k := 1) (t := (2, 0, 0, [151])) rfl rfl)
  have cr_0_2 : ta (w_ar ws (n_v vs 0) 2) = some 152 := tv_rg (th_fd hD hth r0 (g := GG_150) rfl (k := 2) (t := (2, 0, 0, [152])) rfl rfl)
  have ad_7 : v_ad (n_v vs 7) = w_ar ws (n_v vs 0) 2 := congrArg v_ad f12
  have g5 : v_iv (n_v vs 5) = w_fi ws (n_v vs 0) 15 := congrArg v_iv f5
  rw [ad_7] at f6
  have g11 : v_iv (n_v vs 8) = w_fi ws (n_v vs 0) 5 := congrArg v_iv f11
  have g16 : v_iv (n_v vs 4) = w_fi ws (n_v vs 0) 11 := congrArg v_iv f16
  have hK_0_1 : ∀ j : Int, 0 ≤ j → j < 2000 → (-128) ≤ w_ei ws (w_ar ws (n_v vs 0) 1) j ∧ w_ei ws (w_ar ws (n_v vs 0) 1) j ≤ 127 := fun j h0 h1 => th_el hD hth cr_0_1 (kd := 1) (n := 2000) (m := 2000) (lo := (-128)) (hi := 127) (rs := []) (L := []) rfl (by decide) (j := j.toNat) (by omega)
  have kz_0_10 : 0 ≤ w_fi ws (n_v vs 0) 10 ∧ w_fi ws (n_v vs 0) 10 ≤ 2000 := tv_rng (th_fd hD hth r0 (g := GG_150) rfl (k := 10) (t := (0, 0, 2000, [])) rfl rfl)
  have kz_0_11 : 0 ≤ w_fi ws (n_v vs 0) 11 ∧ w_fi ws (n_v vs 0) 11 ≤ 2000 := tv_rng (th_fd hD hth r0 (g := GG_150) rfl (k := 11) (t := (0, 0, 2000, [])) rfl rfl)
  have kz_0_15 : 0 ≤ w_fi ws (n_v vs 0) 15 ∧ w_fi ws (n_v vs 0) 15 ≤ 2000 := tv_rng (th_fd hD hth r0 (g := GG_150) rfl (k := 15) (t := (0, 0, 2000, [])) rfl rfl)
  have nf0 : fc_1 (20, [0, 0, 18], [30, 2008, 1, 1, 11, -1, 1, 15, 2000, 0, 0]) ws (vs) := by
    refine ⟨fun n hn => ?_, ?_⟩
    · have hn : n ∈ [0, 0, 18] := hn
      rw [hl]
      simp only [List.mem_cons, List.not_mem_nil, or_false] at hn
      show n < 20; omega
    · show 1 * w_fi ws (n_v vs 0) 11 + ((-1) * w_fi ws (n_v vs 0) 15 + (2000 * v_iv (n_v vs 18) + 0)) ≤ 2008
      omega
  refine ⟨(fun _ h => (by cases h)), [], trivial, ?_, (fun _ h => (by cases h))⟩
  rw [List.append_nil]
  exact List.forall_mem_cons.mpr ⟨⟨show (20 : Nat) < 100 from by decide, nf0⟩, (fun _ h => (by cases h))⟩
def n_Mo_known_an : List an_T := [(2, [(0, (2, 0, 0, [150])), (1, (0, 0, 24, []))], [], (0, 0), [(0, 0, 99998), (1, 1, 24), (0, 0, 100000), (0, 0, 0), (0, 0, 0)], [], [], [], 0, [], []), (35, [(0, (2, 0, 0, [150])), (1, (0, 0, 23, [])), (2, (0, 0, 1, [])), (3, (0, 0, 8, []))], [], (0, 0), [(0, 0, 99998), (1, 1, 24), (0, 0, 99965), (1, 3, 8), (0, 0, 100000)], [(2, 1, -1000000000000, 1), (2, 3, -1000000000000, 1)], [], [], 0, [], [(20, [0, 0, 2], [30, 2008, 1, 1, 11, -1, 1, 15, 2000, 0, 0])])]
def t_Mo_known_ct : ct_L := [(1, 425, e_Mo_byteAt), (1, 475, e_Mo_nodes), (1, 478, e_Mo_longOf)]
set_option maxRecDepth 100000 in
theorem c_Mo_known {l : Launch} {D : va_G} {kA : Nat → ClassId} (h_Mo_byteAt : ct_ok l D kA GG y_Mo_byteAt z_Mo_byteAt e_Mo_byteAt) (h_Mo_longOf : ct_ok l D kA GG y_Mo_longOf z_Mo_longOf e_Mo_longOf) (h_Mo_nodes : ct_ok l D kA GG y_Mo_nodes z_Mo_nodes e_Mo_nodes) : ct_ok l D kA GG y_Mo_known z_Mo_known e_Mo_known := chk_all_ok (FT := [(16, 13, 2), (391, 13, 5), (422, 13, 11), (431, 13, 15)]) (PT := []) (CT := t_Mo_known_ct) (KT := []) (NT := []) (AN := n_Mo_known_an) (OT := [o_Mo_known_0, o_Mo_known_1, o_Mo_known_2, o_Mo_known_3, o_Mo_known_4, o_Mo_known_5, o_Mo_known_6]) 5 336 (List.forall_mem_cons.mpr ⟨oo_Mo_known_0, List.forall_mem_cons.mpr ⟨oo_Mo_known_1, List.forall_mem_cons.mpr ⟨oo_Mo_known_2, List.forall_mem_cons.mpr ⟨oo_Mo_known_3, List.forall_mem_cons.mpr ⟨oo_Mo_known_4, List.forall_mem_cons.mpr ⟨oo_Mo_known_5, List.forall_mem_cons.mpr ⟨oo_Mo_known_6, List.forall_mem_nil _⟩⟩⟩⟩⟩⟩⟩) (by decide +kernel) ⟨List.forall_mem_cons.mpr ⟨gf_Mo_16, List.forall_mem_cons.mpr ⟨gf_Mo_391, List.forall_mem_cons.mpr ⟨gf_Mo_422, List.forall_mem_cons.mpr ⟨gf_Mo_431, List.forall_mem_nil _⟩⟩⟩⟩, List.forall_mem_nil _, List.forall_mem_cons.mpr ⟨cl_virtual (y := y_Mo_byteAt) (ci := 13) rfl rfl ⟨_, _, rfl⟩ (by decide +kernel) h_Mo_byteAt wm_2986 wm_9 wm_2983 wm_2985 wv_12_12 ⟨by decide, by decide, by decide +kernel⟩ (by decide), List.forall_mem_cons.mpr ⟨cl_virtual (y := y_Mo_nodes) (ci := 13) rfl rfl ⟨_, _, rfl⟩ (by decide +kernel) h_Mo_nodes wm_3025 wm_9 wm_3022 wm_3024 wv_13_3 ⟨by decide, by decide, by decide +kernel⟩ (by decide), List.forall_mem_cons.mpr ⟨cl_virtual (y := y_Mo_longOf) (ci := 13) rfl rfl ⟨_, _, rfl⟩ (by decide +kernel) h_Mo_longOf wm_3029 wm_9 wm_3026 wm_3028 wv_13_4 ⟨by decide, by decide, by decide +kernel⟩ (by decide), List.forall_mem_nil _⟩⟩⟩, List.forall_mem_nil _, List.forall_mem_nil _, GG_pl⟩ (by decide +kernel)
def o_Mo_step_at_gx_0 : or_T := (73, 8, [(0, (2, 0, 0, [150])), (1, (0, 0, 3, [])), (2, (2, 0, 0, [153])), (3, (0, 0, 29, [])), (4, (0, 30, 30, [])), (5, (0, 0, 30, [])), (6, (0, 0, 66297, []))], [(23, [6, 1, 5], [0, 1, -16709, -539]), (23, [6, 1, 5], [0, -1, 16709, 539]), (10, [5, 2, 1], []), (9, [2, 0], [3]), (7, [3, 4], [1]), (10, [3, 2, 1], []), (20, [0], [50, 0, 2, 3, 4, 5, 2, 0, 4, 0, 5, 3, 0, 3, 7, 0, 3, 0, 4, 7, 0])], [], [], [(20, [0, 1], [30, 29, 1, 2, 3]), (20, [6, 1, 0, 1], [30, 0, 1, 0, 0, -16709, 0, 0, -539, 2, 3]), (20, [6, 1, 0, 1], [30, 0, -1, 0, 0, 16709, 0, 0, 539, 2, 3]), (24, [0, 0], []), (24, [1, 1], [])], [], [])
theorem oo_Mo_step_at_gx_0 {kA : Nat → ClassId} : or_ok kA GG o_Mo_step_at_gx_0 := by
  intro A ta ws vs hD hth hl hk hds hf
  have hl : vs.length = 8 := hl
  have hk : ∀ q ∈ ([(0, (2, 0, 0, [150])), (1, (0, 0, 3, [])), (2, (2, 0, 0, [153])), (3, (0, 0, 29, [])), (4, (0, 30, 30, [])), (5, (0, 0, 30, [])), (6, (0, 0, 66297, []))] : List (Nat × tv_T)), tv_ok ta q.2 (n_v vs q.1) := hk
  obtain ⟨t0, hk⟩ := List.forall_mem_cons.mp hk
  have t0 : tv_ok ta (2, 0, 0, [150]) (n_v vs 0) := t0
  have r0 : ta (v_ad (n_v vs 0)) = some 150 := tv_rg t0
  obtain ⟨t1, hk⟩ := List.forall_mem_cons.mp hk
  have t1 : tv_ok ta (0, 0, 3, []) (n_v vs 1) := t1
  have k1 : 0 ≤ v_iv (n_v vs 1) ∧ v_iv (n_v vs 1) ≤ 3 := tv_rng t1
  obtain ⟨t2, hk⟩ := List.forall_mem_cons.mp hk
  have t2 : tv_ok ta (2, 0, 0, [153]) (n_v vs 2) := t2
  have r2 : ta (v_ad (n_v vs 2)) = some 153 := tv_rg t2
  obtain ⟨t3, hk⟩ := List.forall_mem_cons.mp hk
  have t3 : tv_ok ta (0, 0, 29, []) (n_v vs 3) := t3
  have k3 : 0 ≤ v_iv (n_v vs 3) ∧ v_iv (n_v vs 3) ≤ 29 := tv_rng t3
  obtain ⟨t4, hk⟩ := List.forall_mem_cons.mp hk
  have t4 : tv_ok ta (0, 30, 30, []) (n_v vs 4) := t4
  have k4 : 30 ≤ v_iv (n_v vs 4) ∧ v_iv (n_v vs 4) ≤ 30 := tv_rng t4
  obtain ⟨t5, hk⟩ := List.forall_mem_cons.mp hk
  have t5 : tv_ok ta (0, 0, 30, []) (n_v vs 5) := t5
  have k5 : 0 ≤ v_iv (n_v vs 5) ∧ v_iv (n_v vs 5) ≤ 30 := tv_rng t5
  obtain ⟨t6, hk⟩ := List.forall_mem_cons.mp hk
  have t6 : tv_ok ta (0, 0, 66297, []) (n_v vs 6) := t6
  have k6 : 0 ≤ v_iv (n_v vs 6) ∧ v_iv (n_v vs 6) ≤ 66297 := tv_rng t6
  have hf : fc_ok [(23, [6, 1, 5], [0, 1, -16709, -539]), (23, [6, 1, 5], [0, -1, 16709, 539]), (10, [5, 2, 1], []), (9, [2, 0], [3]), (7, [3, 4], [1]), (10, [3, 2, 1], []), (20, [0], [50, 0, 2, 3, 4, 5, 2, 0, 4, 0, 5, 3, 0, 3, 7, 0, 3, 0, 4, 7, 0])] ta ws vs := hf
  obtain ⟨f0, hf⟩ := fc_un (show (23 : Nat) < 100 from by decide) hf
  have f0 : 1 * v_iv (n_v vs 6) + ((-16709) * v_iv (n_v vs 1) + ((-539) * v_iv (n_v vs 5) + 0)) ≤ 0 := f0
  obtain ⟨f1, hf⟩ := fc_un (show (23 : Nat) < 100 from by decide) hf
  have f1 : (-1) * v_iv (n_v vs 6) + (16709 * v_iv (n_v vs 1) + (539 * v_iv (n_v vs 5) + 0)) ≤ 0 := f1
  obtain ⟨f2, hf⟩ := fc_un (show (10 : Nat) < 100 from by decide) hf
  have f2 : v_iv (n_v vs 5) = w_el ws (v_ad (n_v vs 2)) (v_iv (n_v vs 1)).toNat := f2
  obtain ⟨f3, hf⟩ := fc_un (show (9 : Nat) < 100 from by decide) hf
  have f3 : n_v vs 2 = w_fd ws (v_ad (n_v vs 0)) 3 := f3
  obtain ⟨f4, hf⟩ := fc_un (show (7 : Nat) < 100 from by decide) hf
  have f4 : v_iv (n_v vs 3) ≠ v_iv (n_v vs 4) := f4
  obtain ⟨f5, hf⟩ := fc_un (show (10 : Nat) < 100 from by decide) hf
  have f5 : v_iv (n_v vs 3) = w_el ws (v_ad (n_v vs 2)) (v_iv (n_v vs 1)).toNat := f5
  obtain ⟨f6, hf⟩ := fc_un (show (20 : Nat) < 100 from by decide) hf
  have f6 : ∀ j0 : Int, 0 ≤ j0 → j0 < 4 → (w_ei ws (w_ar ws (n_v vs 0) 3) (j0) ≤ w_ei ws (w_ar ws (n_v vs 0) 4) (j0)) := f6
  have cr_0_3 : ta (w_ar ws (n_v vs 0) 3) = some 153 := tv_rg (th_fd hD hth r0 (g := GG_150) rfl (k := 3) (t := (2, 0, 0, [153])) rfl rfl)
  have cr_0_4 : ta (w_ar ws (n_v vs 0) 4) = some 154 := tv_rg (th_fd hD hth r0 (g := GG_150) rfl (k := 4) (t := (2, 0, 0, [154])) rfl rfl)
  have ad_2 : v_ad (n_v vs 2) = w_ar ws (n_v vs 0) 3 := congrArg v_ad f3
  rw [ad_2] at f2
  have h2 : v_iv (n_v vs 5) = w_ei ws (w_ar ws (n_v vs 0) 3) (v_iv (n_v vs 1)) := f2
  rw [ad_2] at f5
  have h5 : v_iv (n_v vs 3) = w_ei ws (w_ar ws (n_v vs 0) 3) (v_iv (n_v vs 1)) := f5
  have br_0_3_1_0 : w_ei ws (w_ar ws (n_v vs 0) 3) (v_iv (n_v vs 1)) = w_el ws (w_ar ws (n_v vs 0) 3) (v_iv (n_v vs 1)).toNat := rfl
  have hK_0_3 : ∀ j : Int, 0 ≤ j → j < 4 → 0 ≤ w_ei ws (w_ar ws (n_v vs 0) 3) j ∧ w_ei ws (w_ar ws (n_v vs 0) 3) j ≤ 30 := fun j h0 h1 => th_el hD hth cr_0_3 (kd := 0) (n := 4) (m := 4) (lo := 0) (hi := 30) (rs := []) (L := []) rfl (by decide) (j := j.toNat) (by omega)
  have hK_0_4 : ∀ j : Int, 0 ≤ j → j < 4 → 0 ≤ w_ei ws (w_ar ws (n_v vs 0) 4) j ∧ w_ei ws (w_ar ws (n_v vs 0) 4) j ≤ 30 := fun j h0 h1 => th_el hD hth cr_0_4 (kd := 0) (n := 4) (m := 4) (lo := 0) (hi := 30) (rs := []) (L := []) rfl (by decide) (j := j.toNat) (by omega)
  have nf0 : fc_1 (20, [0, 1], [30, 29, 1, 2, 3]) ws (vs) := by
    refine ⟨fun n hn => ?_, ?_⟩
    · have hn : n ∈ [0, 1] := hn
      rw [hl]
      simp only [List.mem_cons, List.not_mem_nil, or_false] at hn
      show n < 8; omega
    · show 1 * w_el ws (w_ar ws (n_v vs 0) 3) (v_iv (n_v vs 1)).toNat + 0 ≤ 29
      omega
  have nf1 : fc_1 (20, [6, 1, 0, 1], [30, 0, 1, 0, 0, -16709, 0, 0, -539, 2, 3]) ws (vs) := by
    refine ⟨fun n hn => ?_, ?_⟩
    · have hn : n ∈ [6, 1, 0, 1] := hn
      rw [hl]
      simp only [List.mem_cons, List.not_mem_nil, or_false] at hn
      show n < 8; omega
    · show 1 * v_iv (n_v vs 6) + ((-16709) * v_iv (n_v vs 1) + ((-539) * w_el ws (w_ar ws (n_v vs 0) 3) (v_iv (n_v vs 1)).toNat + 0)) ≤ 0
      omega
  have nf2 : fc_1 (20, [6, 1, 0, 1], [30, 0, -1, 0, 0, 16709, 0, 0, 539, 2, 3]) ws (vs) := by
    refine ⟨fun n hn => ?_, ?_⟩
    · have hn : n ∈ [6, 1, 0, 1] := hn
      rw [hl]
      simp only [List.mem_cons, List.not_mem_nil, or_false] at hn
      show n < 8; omega
    · show (-1) * v_iv (n_v vs 6) + (16709 * v_iv (n_v vs 1) + (539 * w_el ws (w_ar ws (n_v vs 0) 3) (v_iv (n_v vs 1)).toNat + 0)) ≤ 0
      omega
  have nf3 : fc_1 (24, [0, 0], []) ws (vs) := by
    refine ⟨fun n hn => ?_, ?_⟩
    · have hn : n ∈ [0, 0] := hn
      rw [hl]
      simp only [List.mem_cons, List.not_mem_nil, or_false] at hn
      show n < 8; omega
    · show n_v vs 0 = n_v vs 0
      first | rfl | simp only [true_and]
  have nf4 : fc_1 (24, [1, 1], []) ws (vs) := by
    refine ⟨fun n hn => ?_, ?_⟩
    · have hn : n ∈ [1, 1] := hn
      rw [hl]
      simp only [List.mem_cons, List.not_mem_nil, or_false] at hn
      show n < 8; omega
    · show n_v vs 1 = n_v vs 1
      first | rfl | simp only [true_and]
  refine ⟨(fun _ h => (by cases h)), [], trivial, ?_, (fun _ h => (by cases h))⟩
  rw [List.append_nil]
  exact List.forall_mem_cons.mpr ⟨⟨show (20 : Nat) < 100 from by decide, nf0⟩, List.forall_mem_cons.mpr ⟨⟨show (20 : Nat) < 100 from by decide, nf1⟩, List.forall_mem_cons.mpr ⟨⟨show (20 : Nat) < 100 from by decide, nf2⟩, List.forall_mem_cons.mpr ⟨⟨show (24 : Nat) < 100 from by decide, nf3⟩, List.forall_mem_cons.mpr ⟨⟨show (24 : Nat) < 100 from by decide, nf4⟩, (fun _ h => (by cases h))⟩⟩⟩⟩⟩
def o_Mo_step_at_gx_1 : or_T := (13, 6, [(0, (2, 0, 0, [150])), (1, (0, 0, 3, [])), (2, (2, 0, 0, [153])), (3, (0, 30, 30, [])), (4, (0, 30, 30, []))], [(7, [3, 4], [0]), (10, [3, 2, 1], []), (9, [2, 0], [3]), (20, [0], [50, 0, 2, 3, 4, 5, 2, 0, 4, 0, 5, 3, 0, 3, 7, 0, 3, 0, 4, 7, 0])], [], [], [(20, [0, 1], [30, -30, -1, 2, 3]), (24, [0, 0], []), (24, [1, 1], [])], [], [])
theorem oo_Mo_step_at_gx_1 {kA : Nat → ClassId} : or_ok kA GG o_Mo_step_at_gx_1 := by
  intro A ta ws vs hD hth hl hk hds hf
  have hl : vs.length = 6 := hl
  have hk : ∀ q ∈ ([(0, (2, 0, 0, [150])), (1, (0, 0, 3, [])), (2, (2, 0, 0, [153])), (3, (0, 30, 30, [])), (4, (0, 30, 30, []))] : List (Nat × tv_T)), tv_ok ta q.2 (n_v vs q.1) := hk
  obtain ⟨t0, hk⟩ := List.forall_mem_cons.mp hk
  have t0 : tv_ok ta (2, 0, 0, [150]) (n_v vs 0) := t0
  have r0 : ta (v_ad (n_v vs 0)) = some 150 := tv_rg t0
  obtain ⟨t1, hk⟩ := List.forall_mem_cons.mp hk
  have t1 : tv_ok ta (0, 0, 3, []) (n_v vs 1) := t1
  have k1 : 0 ≤ v_iv (n_v vs 1) ∧ v_iv (n_v vs 1) ≤ 3 := tv_rng t1
  obtain ⟨t2, hk⟩ := List.forall_mem_cons.mp hk
  have t2 : tv_ok ta (2, 0, 0, [153]) (n_v vs 2) := t2
  have r2 : ta (v_ad (n_v vs 2)) = some 153 := tv_rg t2
  obtain ⟨t3, hk⟩ := List.forall_mem_cons.mp hk
  have t3 : tv_ok ta (0, 30, 30, []) (n_v vs 3) := t3
  have k3 : 30 ≤ v_iv (n_v vs 3) ∧ v_iv (n_v vs 3) ≤ 30 := tv_rng t3
  obtain ⟨t4, hk⟩ := List.forall_mem_cons.mp hk
  have t4 : tv_ok ta (0, 30, 30, []) (n_v vs 4) := t4
  have k4 : 30 ≤ v_iv (n_v vs 4) ∧ v_iv (n_v vs 4) ≤ 30 := tv_rng t4
  have hf : fc_ok [(7, [3, 4], [0]), (10, [3, 2, 1], []), (9, [2, 0], [3]), (20, [0], [50, 0, 2, 3, 4, 5, 2, 0, 4, 0, 5, 3, 0, 3, 7, 0, 3, 0, 4, 7, 0])] ta ws vs := hf
  obtain ⟨f0, hf⟩ := fc_un (show (7 : Nat) < 100 from by decide) hf
  have f0 : v_iv (n_v vs 3) = v_iv (n_v vs 4) := f0
  obtain ⟨f1, hf⟩ := fc_un (show (10 : Nat) < 100 from by decide) hf
  have f1 : v_iv (n_v vs 3) = w_el ws (v_ad (n_v vs 2)) (v_iv (n_v vs 1)).toNat := f1
  obtain ⟨f2, hf⟩ := fc_un (show (9 : Nat) < 100 from by decide) hf
  have f2 : n_v vs 2 = w_fd ws (v_ad (n_v vs 0)) 3 := f2
  obtain ⟨f3, hf⟩ := fc_un (show (20 : Nat) < 100 from by decide) hf
  have f3 : ∀ j0 : Int, 0 ≤ j0 → j0 < 4 → (w_ei ws (w_ar ws (n_v vs 0) 3) (j0) ≤ w_ei ws (w_ar ws (n_v vs 0) 4) (j0)) := f3
  have cr_0_3 : ta (w_ar ws (n_v vs 0) 3) = some 153 := tv_rg (th_fd hD hth r0 (g := GG_150) rfl (k := 3) (t := (2, 0, 0, [153])) rfl rfl)
  have cr_0_4 : ta (w_ar ws (n_v vs 0) 4) = some 154 := tv_rg (th_fd hD hth r0 (g := GG_150) rfl (k := 4) (t := (2, 0, 0, [154])) rfl rfl)
  have ad_2 : v_ad (n_v vs 2) = w_ar ws (n_v vs 0) 3 := congrArg v_ad f2
  rw [ad_2] at f1
  have h1 : v_iv (n_v vs 3) = w_ei ws (w_ar ws (n_v vs 0) 3) (v_iv (n_v vs 1)) := f1
  have br_0_3_1_0 : w_ei ws (w_ar ws (n_v vs 0) 3) (v_iv (n_v vs 1)) = w_el ws (w_ar ws (n_v vs 0) 3) (v_iv (n_v vs 1)).toNat := rfl
  have hK_0_3 : ∀ j : Int, 0 ≤ j → j < 4 → 0 ≤ w_ei ws (w_ar ws (n_v vs 0) 3) j ∧ w_ei ws (w_ar ws (n_v vs 0) 3) j ≤ 30 := fun j h0 h1 => th_el hD hth cr_0_3 (kd := 0) (n := 4) (m := 4) (lo := 0) (hi := 30) (rs := []) (L := []) rfl (by decide) (j := j.toNat) (by omega)
  have hK_0_4 : ∀ j : Int, 0 ≤ j → j < 4 → 0 ≤ w_ei ws (w_ar ws (n_v vs 0) 4) j ∧ w_ei ws (w_ar ws (n_v vs 0) 4) j ≤ 30 := fun j h0 h1 => th_el hD hth cr_0_4 (kd := 0) (n := 4) (m := 4) (lo := 0) (hi := 30) (rs := []) (L := []) rfl (by decide) (j := j.toNat) (by omega)
  have nf0 : fc_1 (20, [0, 1], [30, -30, -1, 2, 3]) ws (vs) := by
    refine ⟨fun n hn => ?_, ?_⟩
    · have hn : n ∈ [0, 1] := hn
      rw [hl]
      simp only [List.mem_cons, List.not_mem_nil, or_false] at hn
      show n < 6; omega
    · show (-1) * w_el ws (w_ar ws (n_v vs 0) 3) (v_iv (n_v vs 1)).toNat + 0 ≤ (-30)
      omega
  have nf1 : fc_1 (24, [0, 0], []) ws (vs) := by
    refine ⟨fun n hn => ?_, ?_⟩
    · have hn : n ∈ [0, 0] := hn
      rw [hl]
      simp only [List.mem_cons, List.not_mem_nil, or_false] at hn
      show n < 6; omega
    · show n_v vs 0 = n_v vs 0
      first | rfl | simp only [true_and]
  have nf2 : fc_1 (24, [1, 1], []) ws (vs) := by
    refine ⟨fun n hn => ?_, ?_⟩
    · have hn : n ∈ [1, 1] := hn
      rw [hl]
      simp only [List.mem_cons, List.not_mem_nil, or_false] at hn
      show n < 6; omega
    · show n_v vs 1 = n_v vs 1
      first | rfl | simp only [true_and]
  refine ⟨(fun _ h => (by cases h)), [], trivial, ?_, (fun _ h => (by cases h))⟩
  rw [List.append_nil]
  exact List.forall_mem_cons.mpr ⟨⟨show (20 : Nat) < 100 from by decide, nf0⟩, List.forall_mem_cons.mpr ⟨⟨show (24 : Nat) < 100 from by decide, nf1⟩, List.forall_mem_cons.mpr ⟨⟨show (24 : Nat) < 100 from by decide, nf2⟩, (fun _ h => (by cases h))⟩⟩⟩
def o_Mo_step_at_gx_2 : or_T := (59, 10, [(0, (2, 0, 0, [150])), (1, (0, 0, 3, [])), (2, (2, 0, 0, [150])), (3, (0, 0, 3, [])), (6, (2, 0, 0, [153])), (7, (0, 0, 30, [])), (8, (0, 1, 1, [])), (9, (0, -1, 29, []))], [(2, [9, 7, 8], []), (10, [7, 6, 3], []), (9, [6, 2], [3]), (20, [2, 3], [30, -30, -1, 2, 3]), (20, [2], [50, 0, 2, 3, 4, 5, 2, 0, 4, 0, 5, 3, 0, 3, 7, 0, 3, 0, 4, 7, 0]), (24, [0, 2], []), (24, [1, 3], [])], [(9, (0, 0, 29, []))], [], [], [], [(9, 7, -1, -1), (1, 3, -4294967296, 0), (3, 1, -4294967296, 0)])
theorem oo_Mo_step_at_gx_2 {kA : Nat → ClassId} : or_ok kA GG o_Mo_step_at_gx_2 := by
  intro A ta ws vs hD hth hl hk hds hf
  have hl : vs.length = 10 := hl
  have hk : ∀ q ∈ ([(0, (2, 0, 0, [150])), (1, (0, 0, 3, [])), (2, (2, 0, 0, [150])), (3, (0, 0, 3, [])), (6, (2, 0, 0, [153])), (7, (0, 0, 30, [])), (8, (0, 1, 1, [])), (9, (0, -1, 29, []))] : List (Nat × tv_T)), tv_ok ta q.2 (n_v vs q.1) := hk
  obtain ⟨t0, hk⟩ := List.forall_mem_cons.mp hk
  have t0 : tv_ok ta (2, 0, 0, [150]) (n_v vs 0) := t0
  have r0 : ta (v_ad (n_v vs 0)) = some 150 := tv_rg t0
  obtain ⟨t1, hk⟩ := List.forall_mem_cons.mp hk
  have t1 : tv_ok ta (0, 0, 3, []) (n_v vs 1) := t1
  have k1 : 0 ≤ v_iv (n_v vs 1) ∧ v_iv (n_v vs 1) ≤ 3 := tv_rng t1
  obtain ⟨t2, hk⟩ := List.forall_mem_cons.mp hk
  have t2 : tv_ok ta (2, 0, 0, [150]) (n_v vs 2) := t2
  have r2 : ta (v_ad (n_v vs 2)) = some 150 := tv_rg t2
  obtain ⟨t3, hk⟩ := List.forall_mem_cons.mp hk
  have t3 : tv_ok ta (0, 0, 3, []) (n_v vs 3) := t3
  have k3 : 0 ≤ v_iv (n_v vs 3) ∧ v_iv (n_v vs 3) ≤ 3 := tv_rng t3
  obtain ⟨t6, hk⟩ := List.forall_mem_cons.mp hk
  have t6 : tv_ok ta (2, 0, 0, [153]) (n_v vs 6) := t6
  have r6 : ta (v_ad (n_v vs 6)) = some 153 := tv_rg t6
  obtain ⟨t7, hk⟩ := List.forall_mem_cons.mp hk
  have t7 : tv_ok ta (0, 0, 30, []) (n_v vs 7) := t7
  have k7 : 0 ≤ v_iv (n_v vs 7) ∧ v_iv (n_v vs 7) ≤ 30 := tv_rng t7
  obtain ⟨t8, hk⟩ := List.forall_mem_cons.mp hk
  have t8 : tv_ok ta (0, 1, 1, []) (n_v vs 8) := t8
  have k8 : 1 ≤ v_iv (n_v vs 8) ∧ v_iv (n_v vs 8) ≤ 1 := tv_rng t8
  obtain ⟨t9, hk⟩ := List.forall_mem_cons.mp hk
  have t9 : tv_ok ta (0, -1, 29, []) (n_v vs 9) := t9
  have k9 : (-1) ≤ v_iv (n_v vs 9) ∧ v_iv (n_v vs 9) ≤ 29 := tv_rng t9
  have hds : ∀ q ∈ ([(9, 7, -1, -1), (1, 3, -4294967296, 0), (3, 1, -4294967296, 0)] : List of_T), n_iv vs q.2.1 + q.2.2.1 ≤ n_iv vs q.1 ∧ n_iv vs q.1 ≤ n_iv vs q.2.1 + q.2.2.2 := hds
  obtain ⟨d0, hds⟩ := List.forall_mem_cons.mp hds
  have d0 : v_iv (n_v vs 7) + (-1) ≤ v_iv (n_v vs 9) ∧ v_iv (n_v vs 9) ≤ v_iv (n_v vs 7) + (-1) := d0
  obtain ⟨d1, hds⟩ := List.forall_mem_cons.mp hds
  have d1 : v_iv (n_v vs 3) + (-4294967296) ≤ v_iv (n_v vs 1) ∧ v_iv (n_v vs 1) ≤ v_iv (n_v vs 3) + 0 := d1
  obtain ⟨d2, hds⟩ := List.forall_mem_cons.mp hds
  have d2 : v_iv (n_v vs 1) + (-4294967296) ≤ v_iv (n_v vs 3) ∧ v_iv (n_v vs 3) ≤ v_iv (n_v vs 1) + 0 := d2
  have hf : fc_ok [(2, [9, 7, 8], []), (10, [7, 6, 3], []), (9, [6, 2], [3]), (20, [2, 3], [30, -30, -1, 2, 3]), (20, [2], [50, 0, 2, 3, 4, 5, 2, 0, 4, 0, 5, 3, 0, 3, 7, 0, 3, 0, 4, 7, 0]), (24, [0, 2], []), (24, [1, 3], [])] ta ws vs := hf
  obtain ⟨f0, hf⟩ := fc_un (show (2 : Nat) < 100 from by decide) hf
  have f0 : v_iv (n_v vs 9) = v_iv (n_v vs 7) - v_iv (n_v vs 8) := f0
  obtain ⟨f1, hf⟩ := fc_un (show (10 : Nat) < 100 from by decide) hf
  have f1 : v_iv (n_v vs 7) = w_el ws (v_ad (n_v vs 6)) (v_iv (n_v vs 3)).toNat := f1
  obtain ⟨f2, hf⟩ := fc_un (show (9 : Nat) < 100 from by decide) hf
  have f2 : n_v vs 6 = w_fd ws (v_ad (n_v vs 2)) 3 := f2
  obtain ⟨f3, hf⟩ := fc_un (show (20 : Nat) < 100 from by decide) hf
  have f3 : (-1) * w_el ws (w_ar ws (n_v vs 2) 3) (v_iv (n_v vs 3)).toNat + 0 ≤ (-30) := f3
  obtain ⟨f4, hf⟩ := fc_un (show (20 : Nat) < 100 from by decide) hf
  have f4 : ∀ j0 : Int, 0 ≤ j0 → j0 < 4 → (w_ei ws (w_ar ws (n_v vs 2) 3) (j0) ≤ w_ei ws (w_ar ws (n_v vs 2) 4) (j0)) := f4
  obtain ⟨f5, hf⟩ := fc_un (show (24 : Nat) < 100 from by decide) hf
  have f5 : n_v vs 0 = n_v vs 2 := f5
  obtain ⟨f6, hf⟩ := fc_un (show (24 : Nat) < 100 from by decide) hf
  have f6 : n_v vs 1 = n_v vs 3 := f6
  have q2 : n_v vs 2 = n_v vs 0 := f5.symm
  have q3 : n_v vs 3 = n_v vs 1 := f6.symm
  rw [q3] at f1
  rw [q2] at f2
  rw [q2] at f3
  rw [q3] at f3
  rw [q2] at f4
  have cr_0_3 : ta (w_ar ws (n_v vs 0) 3) = some 153 := tv_rg (th_fd hD hth r0 (g := GG_150) rfl (k := 3) (t := (2, 0, 0, [153])) rfl rfl)
  have cr_0_4 : ta (w_ar ws (n_v vs 0) 4) = some 154 := tv_rg (th_fd hD hth r0 (g := GG_150) rfl (k := 4) (t := (2, 0, 0, [154])) rfl rfl)
  have ad_6 : v_ad (n_v vs 6) = w_ar ws (n_v vs 0) 3 := congrArg v_ad f2
  rw [ad_6] at f1
  have h1 : v_iv (n_v vs 7) = w_ei ws (w_ar ws (n_v vs 0) 3) (v_iv (n_v vs 1)) := f1
  have br_0_3_1_0 : w_ei ws (w_ar ws (n_v vs 0) 3) (v_iv (n_v vs 1)) = w_el ws (w_ar ws (n_v vs 0) 3) (v_iv (n_v vs 1)).toNat := rfl
  have hK_0_3 : ∀ j : Int, 0 ≤ j → j < 4 → 0 ≤ w_ei ws (w_ar ws (n_v vs 0) 3) j ∧ w_ei ws (w_ar ws (n_v vs 0) 3) j ≤ 30 := fun j h0 h1 => th_el hD hth cr_0_3 (kd := 0) (n := 4) (m := 4) (lo := 0) (hi := 30) (rs := []) (L := []) rfl (by decide) (j := j.toNat) (by omega)
  have hK_0_4 : ∀ j : Int, 0 ≤ j → j < 4 → 0 ≤ w_ei ws (w_ar ws (n_v vs 0) 4) j ∧ w_ei ws (w_ar ws (n_v vs 0) 4) j ≤ 30 := fun j h0 h1 => th_el hD hth cr_0_4 (kd := 0) (n := 4) (m := 4) (lo := 0) (hi := 30) (rs := []) (L := []) rfl (by decide) (j := j.toNat) (by omega)
  have rf9 : tv_ok ta (0, 0, 29, []) (n_v vs 9) := tv_in t9 (by first | omega | grind) (by first | omega | grind)
  refine ⟨List.forall_mem_cons.mpr ⟨rf9, (fun _ h => (by cases h))⟩, [], trivial, ?_, (fun _ h => (by cases h))⟩
  rw [List.append_nil]
  exact (fun _ h => (by cases h))
def o_Mo_step_at_gx_3 : or_T := (73, 13, [(0, (2, 0, 0, [150])), (1, (0, 0, 3, [])), (2, (2, 0, 0, [150])), (3, (0, 0, 3, [])), (6, (2, 0, 0, [153])), (7, (0, 0, 30, [])), (8, (0, 1, 1, [])), (9, (0, 0, 29, [])), (10, (0, 0, 30, [])), (11, (0, 0, 66297, []))], [(23, [11, 3, 10], [0, 1, -16709, -539]), (23, [11, 3, 10], [0, -1, 16709, 539]), (10, [10, 6, 3], []), (9, [6, 2], [3]), (24, [0, 2], []), (24, [1, 3], []), (100, [6, 3, 9], []), (2, [9, 7, 8], []), (10, [7, 6, 3], []), (20, [2, 3], [30, -30, -1, 2, 3]), (20, [2], [50, 0, 2, 3, 4, 5, 2, 0, 4, 0, 5, 3, 0, 3, 7, 0, 3, 0, 4, 7, 0])], [], [], [(20, [2, 3], [30, 29, 1, 2, 3]), (20, [11, 3, 2, 3], [30, 0, 1, 0, 0, -16709, 0, 0, -539, 2, 3]), (20, [11, 3, 2, 3], [30, 0, -1, 0, 0, 16709, 0, 0, 539, 2, 3]), (20, [2], [50, 0, 2, 3, 4, 5, 2, 0, 4, 0, 5, 3, 0, 3, 7, 0, 3, 0, 4, 7, 0])], [], [(9, 7, -1, -1), (1, 3, -4294967296, 0), (3, 1, -4294967296, 0)])
theorem oo_Mo_step_at_gx_3 {kA : Nat → ClassId} : or_ok kA GG o_Mo_step_at_gx_3 := by
  intro A ta ws vs hD hth hl hk hds hf
  have hl : vs.length = 13 := hl
  have hk : ∀ q ∈ ([(0, (2, 0, 0, [150])), (1, (0, 0, 3, [])), (2, (2, 0, 0, [150])), (3, (0, 0, 3, [])), (6, (2, 0, 0, [153])), (7, (0, 0, 30, [])), (8, (0, 1, 1, [])), (9, (0, 0, 29, [])), (10, (0, 0, 30, [])), (11, (0, 0, 66297, []))] : List (Nat × tv_T)), tv_ok ta q.2 (n_v vs q.1) := hk
  obtain ⟨t0, hk⟩ := List.forall_mem_cons.mp hk
  have t0 : tv_ok ta (2, 0, 0, [150]) (n_v vs 0) := t0
  have r0 : ta (v_ad (n_v vs 0)) = some 150 := tv_rg t0
  obtain ⟨t1, hk⟩ := List.forall_mem_cons.mp hk
  have t1 : tv_ok ta (0, 0, 3, []) (n_v vs 1) := t1
  have k1 : 0 ≤ v_iv (n_v vs 1) ∧ v_iv (n_v vs 1) ≤ 3 := tv_rng t1
  obtain ⟨t2, hk⟩ := List.forall_mem_cons.mp hk
  have t2 : tv_ok ta (2, 0, 0, [150]) (n_v vs 2) := t2
  have r2 : ta (v_ad (n_v vs 2)) = some 150 := tv_rg t2
  obtain ⟨t3, hk⟩ := List.forall_mem_cons.mp hk
  have t3 : tv_ok ta (0, 0, 3, []) (n_v vs 3) := t3
  have k3 : 0 ≤ v_iv (n_v vs 3) ∧ v_iv (n_v vs 3) ≤ 3 := tv_rng t3
  obtain ⟨t6, hk⟩ := List.forall_mem_cons.mp hk
  have t6 : tv_ok ta (2, 0, 0, [153]) (n_v vs 6) := t6
  have r6 : ta (v_ad (n_v vs 6)) = some 153 := tv_rg t6
  obtain ⟨t7, hk⟩ := List.forall_mem_cons.mp hk
  have t7 : tv_ok ta (0, 0, 30, []) (n_v vs 7) := t7
  have k7 : 0 ≤ v_iv (n_v vs 7) ∧ v_iv (n_v vs 7) ≤ 30 := tv_rng t7
  obtain ⟨t8, hk⟩ := List.forall_mem_cons.mp hk
  have t8 : tv_ok ta (0, 1, 1, []) (n_v vs 8) := t8
  have k8 : 1 ≤ v_iv (n_v vs 8) ∧ v_iv (n_v vs 8) ≤ 1 := tv_rng t8
  obtain ⟨t9, hk⟩ := List.forall_mem_cons.mp hk
  have t9 : tv_ok ta (0, 0, 29, []) (n_v vs 9) := t9
  have k9 : 0 ≤ v_iv (n_v vs 9) ∧ v_iv (n_v vs 9) ≤ 29 := tv_rng t9
  obtain ⟨t10, hk⟩ := List.forall_mem_cons.mp hk
  have t10 : tv_ok ta (0, 0, 30, []) (n_v vs 10) := t10
  have k10 : 0 ≤ v_iv (n_v vs 10) ∧ v_iv (n_v vs 10) ≤ 30 := tv_rng t10
  obtain ⟨t11, hk⟩ := List.forall_mem_cons.mp hk
  have t11 : tv_ok ta (0, 0, 66297, []) (n_v vs 11) := t11
  have k11 : 0 ≤ v_iv (n_v vs 11) ∧ v_iv (n_v vs 11) ≤ 66297 := tv_rng t11
  have hds : ∀ q ∈ ([(9, 7, -1, -1), (1, 3, -4294967296, 0), (3, 1, -4294967296, 0)] : List of_T), n_iv vs q.2.1 + q.2.2.1 ≤ n_iv vs q.1 ∧ n_iv vs q.1 ≤ n_iv vs q.2.1 + q.2.2.2 := hds
  obtain ⟨d0, hds⟩ := List.forall_mem_cons.mp hds
  have d0 : v_iv (n_v vs 7) + (-1) ≤ v_iv (n_v vs 9) ∧ v_iv (n_v vs 9) ≤ v_iv (n_v vs 7) + (-1) := d0
  obtain ⟨d1, hds⟩ := List.forall_mem_cons.mp hds
  have d1 : v_iv (n_v vs 3) + (-4294967296) ≤ v_iv (n_v vs 1) ∧ v_iv (n_v vs 1) ≤ v_iv (n_v vs 3) + 0 := d1
  obtain ⟨d2, hds⟩ := List.forall_mem_cons.mp hds
  have d2 : v_iv (n_v vs 1) + (-4294967296) ≤ v_iv (n_v vs 3) ∧ v_iv (n_v vs 3) ≤ v_iv (n_v vs 1) + 0 := d2
  have hf : fc_ok [(23, [11, 3, 10], [0, 1, -16709, -539]), (23, [11, 3, 10], [0, -1, 16709, 539]), (10, [10, 6, 3], []), (9, [6, 2], [3]), (24, [0, 2], []), (24, [1, 3], []), (100, [6, 3, 9], []), (2, [9, 7, 8], []), (10, [7, 6, 3], []), (20, [2, 3], [30, -30, -1, 2, 3]), (20, [2], [50, 0, 2, 3, 4, 5, 2, 0, 4, 0, 5, 3, 0, 3, 7, 0, 3, 0, 4, 7, 0])] ta ws vs := hf
  obtain ⟨f0, hf⟩ := fc_un (show (23 : Nat) < 100 from by decide) hf
  have f0 : 1 * v_iv (n_v vs 11) + ((-16709) * v_iv (n_v vs 3) + ((-539) * v_iv (n_v vs 10) + 0)) ≤ 0 := f0
  obtain ⟨f1, hf⟩ := fc_un (show (23 : Nat) < 100 from by decide) hf
  have f1 : (-1) * v_iv (n_v vs 11) + (16709 * v_iv (n_v vs 3) + (539 * v_iv (n_v vs 10) + 0)) ≤ 0 := f1
  obtain ⟨f2, hf⟩ := fc_un (show (10 : Nat) < 100 from by decide) hf
  have f2 : v_iv (n_v vs 10) = w_el ws (v_ad (n_v vs 6)) (v_iv (n_v vs 3)).toNat := f2
  obtain ⟨f3, hf⟩ := fc_un (show (9 : Nat) < 100 from by decide) hf
  have f3 : n_v vs 6 = w_fd ws (v_ad (n_v vs 2)) 3 := f3
  obtain ⟨f4, hf⟩ := fc_un (show (24 : Nat) < 100 from by decide) hf
  have f4 : n_v vs 0 = n_v vs 2 := f4
  obtain ⟨f5, hf⟩ := fc_un (show (24 : Nat) < 100 from by decide) hf
  have f5 : n_v vs 1 = n_v vs 3 := f5
  obtain ⟨ta1, w1, le1, ⟨_, s1⟩, hf⟩ := fc_us (show ¬ (100 : Nat) < 100 from by decide) hf
  have s1 : (∀ b j, w_el ws b j = if b = v_ad (n_v vs 6) ∧ j = (v_iv (n_v vs 3)).toNat then v_iv (n_v vs 9) else w_el w1 b j) ∧ ∀ b k, w_fd ws b k = w_fd w1 b k := s1
  obtain ⟨f7, hf⟩ := fc_un (show (2 : Nat) < 100 from by decide) hf
  have f7 : v_iv (n_v vs 9) = v_iv (n_v vs 7) - v_iv (n_v vs 8) := f7
  obtain ⟨f8, hf⟩ := fc_un (show (10 : Nat) < 100 from by decide) hf
  have f8 : v_iv (n_v vs 7) = w_el w1 (v_ad (n_v vs 6)) (v_iv (n_v vs 3)).toNat := f8
  obtain ⟨f9, hf⟩ := fc_un (show (20 : Nat) < 100 from by decide) hf
  have f9 : (-1) * w_el w1 (w_ar w1 (n_v vs 2) 3) (v_iv (n_v vs 3)).toNat + 0 ≤ (-30) := f9
  obtain ⟨f10, hf⟩ := fc_un (show (20 : Nat) < 100 from by decide) hf
  have f10 : ∀ j0 : Int, 0 ≤ j0 → j0 < 4 → (w_ei w1 (w_ar w1 (n_v vs 2) 3) (j0) ≤ w_ei w1 (w_ar w1 (n_v vs 2) 4) (j0)) := f10
  have q2 : n_v vs 2 = n_v vs 0 := f4.symm
  have q3 : n_v vs 3 = n_v vs 1 := f5.symm
  rw [q3] at f0
  rw [q3] at f1
  rw [q3] at f2
  rw [q2] at f3
  rw [q3] at s1
  rw [q3] at f8
  rw [q2] at f9
  rw [q3] at f9
  rw [q2] at f10
  have ar_0_3_1 : w_ar w1 (n_v vs 0) 3 = w_ar ws (n_v vs 0) 3 := by show v_ad (w_fd w1 _ _) = v_ad (w_fd ws _ _); rw [s1.2]
  have cr_0_3 : ta (w_ar ws (n_v vs 0) 3) = some 153 := tv_rg (th_fd hD hth r0 (g := GG_150) rfl (k := 3) (t := (2, 0, 0, [153])) rfl rfl)
  have ar_0_4_1 : w_ar w1 (n_v vs 0) 4 = w_ar ws (n_v vs 0) 4 := by show v_ad (w_fd w1 _ _) = v_ad (w_fd ws _ _); rw [s1.2]
  have cr_0_4 : ta (w_ar ws (n_v vs 0) 4) = some 154 := tv_rg (th_fd hD hth r0 (g := GG_150) rfl (k := 4) (t := (2, 0, 0, [154])) rfl rfl)
  have ad_6 : v_ad (n_v vs 6) = w_ar ws (n_v vs 0) 3 := congrArg v_ad f3
  rw [ad_6] at f2
  have h2 : v_iv (n_v vs 10) = w_ei ws (w_ar ws (n_v vs 0) 3) (v_iv (n_v vs 1)) := f2
  rw [ad_6] at f8
  have h8 : v_iv (n_v vs 7) = w_ei w1 (w_ar ws (n_v vs 0) 3) (v_iv (n_v vs 1)) := f8
  rw [ar_0_3_1] at f9
  rw [ar_0_3_1] at f10
  rw [ar_0_4_1] at f10
  have ee_0_3_1_1 : w_el ws (w_ar ws (n_v vs 0) 3) (v_iv (n_v vs 1)).toNat = v_iv (n_v vs 9) := by rw [s1.1, if_pos ⟨ad_6.symm, rfl⟩]
  have br_0_3_1_0 : w_ei ws (w_ar ws (n_v vs 0) 3) (v_iv (n_v vs 1)) = w_el ws (w_ar ws (n_v vs 0) 3) (v_iv (n_v vs 1)).toNat := rfl
  have br_0_3_1_1 : w_ei w1 (w_ar ws (n_v vs 0) 3) (v_iv (n_v vs 1)) = w_el w1 (w_ar ws (n_v vs 0) 3) (v_iv (n_v vs 1)).toNat := rfl
  have hE_0_3_1 : ∀ j : Int, 0 ≤ j → (j = v_iv (n_v vs 1) → w_ei ws (w_ar ws (n_v vs 0) 3) j = v_iv (n_v vs 9)) ∧ (j ≠ v_iv (n_v vs 1) → w_ei ws (w_ar ws (n_v vs 0) 3) j = w_ei w1 (w_ar ws (n_v vs 0) 3) j) := fun j hj => ⟨fun h => by unfold w_ei; rw [s1.1, if_pos ⟨ad_6.symm, by rw [h]⟩], fun h => by unfold w_ei; rw [s1.1, if_neg (fun e => h (by have := e.2; omega))]⟩
  have hK_0_3 : ∀ j : Int, 0 ≤ j → j < 4 → 0 ≤ w_ei ws (w_ar ws (n_v vs 0) 3) j ∧ w_ei ws (w_ar ws (n_v vs 0) 3) j ≤ 30 := fun j h0 h1 => th_el hD hth cr_0_3 (kd := 0) (n := 4) (m := 4) (lo := 0) (hi := 30) (rs := []) (L := []) rfl (by decide) (j := j.toNat) (by omega)
  have hE_0_4_1 : ∀ j : Int, w_ei ws (w_ar ws (n_v vs 0) 4) j = w_ei w1 (w_ar ws (n_v vs 0) 4) j := fun j => by unfold w_ei; rw [s1.1, if_neg (fun e => by have e1 := e.1; rw [← e1] at r6; rw [cr_0_4] at r6; exact absurd (Option.some.inj r6) (by decide))]
  have hK_0_4 : ∀ j : Int, 0 ≤ j → j < 4 → 0 ≤ w_ei ws (w_ar ws (n_v vs 0) 4) j ∧ w_ei ws (w_ar ws (n_v vs 0) 4) j ≤ 30 := fun j h0 h1 => th_el hD hth cr_0_4 (kd := 0) (n := 4) (m := 4) (lo := 0) (hi := 30) (rs := []) (L := []) rfl (by decide) (j := j.toNat) (by omega)
  have nf0 : fc_1 (20, [2, 3], [30, 29, 1, 2, 3]) ws (vs) := by
    refine ⟨fun n hn => ?_, ?_⟩
    · have hn : n ∈ [2, 3] := hn
      rw [hl]
      simp only [List.mem_cons, List.not_mem_nil, or_false] at hn
      show n < 13; omega
    · show 1 * w_el ws (w_ar ws (n_v vs 2) 3) (v_iv (n_v vs 3)).toNat + 0 ≤ 29
      rw [q2, q3]
      omega
  have nf1 : fc_1 (20, [11, 3, 2, 3], [30, 0, 1, 0, 0, -16709, 0, 0, -539, 2, 3]) ws (vs) := by
    refine ⟨fun n hn => ?_, ?_⟩
    · have hn : n ∈ [11, 3, 2, 3] := hn
      rw [hl]
      simp only [List.mem_cons, List.not_mem_nil, or_false] at hn
      show n < 13; omega
    · show 1 * v_iv (n_v vs 11) + ((-16709) * v_iv (n_v vs 3) + ((-539) * w_el ws (w_ar ws (n_v vs 2) 3) (v_iv (n_v vs 3)).toNat + 0)) ≤ 0
      rw [q2, q3]
      omega
  have nf2 : fc_1 (20, [11, 3, 2, 3], [30, 0, -1, 0, 0, 16709, 0, 0, 539, 2, 3]) ws (vs) := by
    refine ⟨fun n hn => ?_, ?_⟩
    · have hn : n ∈ [11, 3, 2, 3] := hn
      rw [hl]
      simp only [List.mem_cons, List.not_mem_nil, or_false] at hn
      show n < 13; omega
    · show (-1) * v_iv (n_v vs 11) + (16709 * v_iv (n_v vs 3) + (539 * w_el ws (w_ar ws (n_v vs 2) 3) (v_iv (n_v vs 3)).toNat + 0)) ≤ 0
      rw [q2, q3]
      omega
  have nf3 : fc_1 (20, [2], [50, 0, 2, 3, 4, 5, 2, 0, 4, 0, 5, 3, 0, 3, 7, 0, 3, 0, 4, 7, 0]) ws (vs) := by
    refine ⟨fun n hn => ?_, ?_⟩
    · have hn : n ∈ [2] := hn
      rw [hl]
      simp only [List.mem_cons, List.not_mem_nil, or_false] at hn
      show n < 13; omega
    · show ∀ j0 : Int, 0 ≤ j0 → j0 < 4 → (w_ei ws (w_ar ws (n_v vs 2) 3) (j0) ≤ w_ei ws (w_ar ws (n_v vs 2) 4) (j0))
      rw [q2]
      first | omega | grind
  refine ⟨(fun _ h => (by cases h)), [], trivial, ?_, (fun _ h => (by cases h))⟩
  rw [List.append_nil]
  exact List.forall_mem_cons.mpr ⟨⟨show (20 : Nat) < 100 from by decide, nf0⟩, List.forall_mem_cons.mpr ⟨⟨show (20 : Nat) < 100 from by decide, nf1⟩, List.forall_mem_cons.mpr ⟨⟨show (20 : Nat) < 100 from by decide, nf2⟩, List.forall_mem_cons.mpr ⟨⟨show (20 : Nat) < 100 from by decide, nf3⟩, (fun _ h => (by cases h))⟩⟩⟩⟩
def o_Mo_step_at_gx_4 : or_T := (42, 13, [(0, (2, 0, 0, [150])), (1, (0, 0, 3, [])), (2, (2, 0, 0, [150])), (3, (0, 0, 3, [])), (4, (0, 0, 16169, [])), (5, (0, 16170, 16170, [])), (7, (0, 0, 0, [])), (8, (0, 0, 66297, [])), (9, (0, 0, 82466, [])), (10, (0, 1, 1, [])), (11, (0, 0, 66297, [])), (12, (0, 0, 82466, []))], [(1, [12, 11, 4], []), (23, [11, 3, 10], [0, 1, -16709, -539]), (23, [11, 3, 10], [0, -1, 16709, 539]), (1, [9, 8, 4], []), (23, [8, 3, 7], [0, 1, -16709, -539]), (23, [8, 3, 7], [0, -1, 16709, 539]), (7, [4, 5], [2]), (20, [2, 3], [30, -30, -1, 2, 3]), (20, [2], [50, 0, 2, 3, 4, 5, 2, 0, 4, 0, 5, 3, 0, 3, 7, 0, 3, 0, 4, 7, 0]), (24, [0, 2], []), (24, [1, 3], [])], [(12, (0, 0, 66835, []))], [], [], [], [(12, 4, 0, 66297), (12, 11, 0, 16169), (9, 4, 0, 66297), (9, 8, 0, 16169), (1, 3, -4294967296, 0), (1, 4, -4294967296, 3), (3, 1, -4294967296, 0), (3, 4, -4294967296, 3)])
theorem oo_Mo_step_at_gx_4 {kA : Nat → ClassId} : or_ok kA GG o_Mo_step_at_gx_4 := by
  intro A ta ws vs hD hth hl hk hds hf
  have hl : vs.length = 13 := hl
  have hk : ∀ q ∈ ([(0, (2, 0, 0, [150])), (1, (0, 0, 3, [])), (2, (2, 0, 0, [150])), (3, (0, 0, 3, [])), (4, (0, 0, 16169, [])), (5, (0, 16170, 16170, [])), (7, (0, 0, 0, [])), (8, (0, 0, 66297, [])), (9, (0, 0, 82466, [])), (10, (0, 1, 1, [])), (11, (0, 0, 66297, [])), (12, (0, 0, 82466, []))] : List (Nat × tv_T)), tv_ok ta q.2 (n_v vs q.1) := hk
  obtain ⟨t0, hk⟩ := List.forall_mem_cons.mp hk
  have t0 : tv_ok ta (2, 0, 0, [150]) (n_v vs 0) := t0
  have r0 : ta (v_ad (n_v vs 0)) = some 150 := tv_rg t0
  obtain ⟨t1, hk⟩ := List.forall_mem_cons.mp hk
  have t1 : tv_ok ta (0, 0, 3, []) (n_v vs 1) := t1
  have k1 : 0 ≤ v_iv (n_v vs 1) ∧ v_iv (n_v vs 1) ≤ 3 := tv_rng t1
  obtain ⟨t2, hk⟩ := List.forall_mem_cons.mp hk
  have t2 : tv_ok ta (2, 0, 0, [150]) (n_v vs 2) := t2
  have r2 : ta (v_ad (n_v vs 2)) = some 150 := tv_rg t2
  obtain ⟨t3, hk⟩ := List.forall_mem_cons.mp hk
  have t3 : tv_ok ta (0, 0, 3, []) (n_v vs 3) := t3
  have k3 : 0 ≤ v_iv (n_v vs 3) ∧ v_iv (n_v vs 3) ≤ 3 := tv_rng t3
  obtain ⟨t4, hk⟩ := List.forall_mem_cons.mp hk
  have t4 : tv_ok ta (0, 0, 16169, []) (n_v vs 4) := t4
  have k4 : 0 ≤ v_iv (n_v vs 4) ∧ v_iv (n_v vs 4) ≤ 16169 := tv_rng t4
  obtain ⟨t5, hk⟩ := List.forall_mem_cons.mp hk
  have t5 : tv_ok ta (0, 16170, 16170, []) (n_v vs 5) := t5
  have k5 : 16170 ≤ v_iv (n_v vs 5) ∧ v_iv (n_v vs 5) ≤ 16170 := tv_rng t5
  obtain ⟨t7, hk⟩ := List.forall_mem_cons.mp hk
  have t7 : tv_ok ta (0, 0, 0, []) (n_v vs 7) := t7
  have k7 : 0 ≤ v_iv (n_v vs 7) ∧ v_iv (n_v vs 7) ≤ 0 := tv_rng t7
  obtain ⟨t8, hk⟩ := List.forall_mem_cons.mp hk
  have t8 : tv_ok ta (0, 0, 66297, []) (n_v vs 8) := t8
  have k8 : 0 ≤ v_iv (n_v vs 8) ∧ v_iv (n_v vs 8) ≤ 66297 := tv_rng t8
  obtain ⟨t9, hk⟩ := List.forall_mem_cons.mp hk
  have t9 : tv_ok ta (0, 0, 82466, []) (n_v vs 9) := t9
  have k9 : 0 ≤ v_iv (n_v vs 9) ∧ v_iv (n_v vs 9) ≤ 82466 := tv_rng t9
  obtain ⟨t10, hk⟩ := List.forall_mem_cons.mp hk
  have t10 : tv_ok ta (0, 1, 1, []) (n_v vs 10) := t10
  have k10 : 1 ≤ v_iv (n_v vs 10) ∧ v_iv (n_v vs 10) ≤ 1 := tv_rng t10
  obtain ⟨t11, hk⟩ := List.forall_mem_cons.mp hk
  have t11 : tv_ok ta (0, 0, 66297, []) (n_v vs 11) := t11
  have k11 : 0 ≤ v_iv (n_v vs 11) ∧ v_iv (n_v vs 11) ≤ 66297 := tv_rng t11
  obtain ⟨t12, hk⟩ := List.forall_mem_cons.mp hk
  have t12 : tv_ok ta (0, 0, 82466, []) (n_v vs 12) := t12
  have k12 : 0 ≤ v_iv (n_v vs 12) ∧ v_iv (n_v vs 12) ≤ 82466 := tv_rng t12
  have hds : ∀ q ∈ ([(12, 4, 0, 66297), (12, 11, 0, 16169), (9, 4, 0, 66297), (9, 8, 0, 16169), (1, 3, -4294967296, 0), (1, 4, -4294967296, 3), (3, 1, -4294967296, 0), (3, 4, -4294967296, 3)] : List of_T), n_iv vs q.2.1 + q.2.2.1 ≤ n_iv vs q.1 ∧ n_iv vs q.1 ≤ n_iv vs q.2.1 + q.2.2.2 := hds
  obtain ⟨d0, hds⟩ := List.forall_mem_cons.mp hds
  have d0 : v_iv (n_v vs 4) + 0 ≤ v_iv (n_v vs 12) ∧ v_iv (n_v vs 12) ≤ v_iv (n_v vs 4) + 66297 := d0
  obtain ⟨d1, hds⟩ := List.forall_mem_cons.mp hds
  have d1 : v_iv (n_v vs 11) + 0 ≤ v_iv (n_v vs 12) ∧ v_iv (n_v vs 12) ≤ v_iv (n_v vs 11) + 16169 := d1
  obtain ⟨d2, hds⟩ := List.forall_mem_cons.mp hds
  have d2 : v_iv (n_v vs 4) + 0 ≤ v_iv (n_v vs 9) ∧ v_iv (n_v vs 9) ≤ v_iv (n_v vs 4) + 66297 := d2
  obtain ⟨d3, hds⟩ := List.forall_mem_cons.mp hds
  have d3 : v_iv (n_v vs 8) + 0 ≤ v_iv (n_v vs 9) ∧ v_iv (n_v vs 9) ≤ v_iv (n_v vs 8) + 16169 := d3
  obtain ⟨d4, hds⟩ := List.forall_mem_cons.mp hds
  have d4 : v_iv (n_v vs 3) + (-4294967296) ≤ v_iv (n_v vs 1) ∧ v_iv (n_v vs 1) ≤ v_iv (n_v vs 3) + 0 := d4
  obtain ⟨d5, hds⟩ := List.forall_mem_cons.mp hds
  have d5 : v_iv (n_v vs 4) + (-4294967296) ≤ v_iv (n_v vs 1) ∧ v_iv (n_v vs 1) ≤ v_iv (n_v vs 4) + 3 := d5
  obtain ⟨d6, hds⟩ := List.forall_mem_cons.mp hds
  have d6 : v_iv (n_v vs 1) + (-4294967296) ≤ v_iv (n_v vs 3) ∧ v_iv (n_v vs 3) ≤ v_iv (n_v vs 1) + 0 := d6
  obtain ⟨d7, hds⟩ := List.forall_mem_cons.mp hds
  have d7 : v_iv (n_v vs 4) + (-4294967296) ≤ v_iv (n_v vs 3) ∧ v_iv (n_v vs 3) ≤ v_iv (n_v vs 4) + 3 := d7
  have hf : fc_ok [(1, [12, 11, 4], []), (23, [11, 3, 10], [0, 1, -16709, -539]), (23, [11, 3, 10], [0, -1, 16709, 539]), (1, [9, 8, 4], []), (23, [8, 3, 7], [0, 1, -16709, -539]), (23, [8, 3, 7], [0, -1, 16709, 539]), (7, [4, 5], [2]), (20, [2, 3], [30, -30, -1, 2, 3]), (20, [2], [50, 0, 2, 3, 4, 5, 2, 0, 4, 0, 5, 3, 0, 3, 7, 0, 3, 0, 4, 7, 0]), (24, [0, 2], []), (24, [1, 3], [])] ta ws vs := hf
  obtain ⟨f0, hf⟩ := fc_un (show (1 : Nat) < 100 from by decide) hf
  have f0 : v_iv (n_v vs 12) = v_iv (n_v vs 11) + v_iv (n_v vs 4) := f0
  obtain ⟨f1, hf⟩ := fc_un (show (23 : Nat) < 100 from by decide) hf
  have f1 : 1 * v_iv (n_v vs 11) + ((-16709) * v_iv (n_v vs 3) + ((-539) * v_iv (n_v vs 10) + 0)) ≤ 0 := f1
  obtain ⟨f2, hf⟩ := fc_un (show (23 : Nat) < 100 from by decide) hf
  have f2 : (-1) * v_iv (n_v vs 11) + (16709 * v_iv (n_v vs 3) + (539 * v_iv (n_v vs 10) + 0)) ≤ 0 := f2
  obtain ⟨f3, hf⟩ := fc_un (show (1 : Nat) < 100 from by decide) hf
  have f3 : v_iv (n_v vs 9) = v_iv (n_v vs 8) + v_iv (n_v vs 4) := f3
  obtain ⟨f4, hf⟩ := fc_un (show (23 : Nat) < 100 from by decide) hf
  have f4 : 1 * v_iv (n_v vs 8) + ((-16709) * v_iv (n_v vs 3) + ((-539) * v_iv (n_v vs 7) + 0)) ≤ 0 := f4
  obtain ⟨f5, hf⟩ := fc_un (show (23 : Nat) < 100 from by decide) hf
  have f5 : (-1) * v_iv (n_v vs 8) + (16709 * v_iv (n_v vs 3) + (539 * v_iv (n_v vs 7) + 0)) ≤ 0 := f5
  obtain ⟨f6, hf⟩ := fc_un (show (7 : Nat) < 100 from by decide) hf
  have f6 : v_iv (n_v vs 4) < v_iv (n_v vs 5) := f6
  obtain ⟨f7, hf⟩ := fc_un (show (20 : Nat) < 100 from by decide) hf
  have f7 : (-1) * w_el ws (w_ar ws (n_v vs 2) 3) (v_iv (n_v vs 3)).toNat + 0 ≤ (-30) := f7
  obtain ⟨f8, hf⟩ := fc_un (show (20 : Nat) < 100 from by decide) hf
  have f8 : ∀ j0 : Int, 0 ≤ j0 → j0 < 4 → (w_ei ws (w_ar ws (n_v vs 2) 3) (j0) ≤ w_ei ws (w_ar ws (n_v vs 2) 4) (j0)) := f8
  obtain ⟨f9, hf⟩ := fc_un (show (24 : Nat) < 100 from by decide) hf
  have f9 : n_v vs 0 = n_v vs 2 := f9
  obtain ⟨f10, hf⟩ := fc_un (show (24 : Nat) < 100 from by decide) hf
  have f10 : n_v vs 1 = n_v vs 3 := f10
  have q2 : n_v vs 2 = n_v vs 0 := f9.symm
  have q3 : n_v vs 3 = n_v vs 1 := f10.symm
  rw [q3] at f1
  rw [q3] at f2
  rw [q3] at f4
  rw [q3] at f5
  rw [q2] at f7
  rw [q3] at f7
  rw [q2] at f8
  have cr_0_3 : ta (w_ar ws (n_v vs 0) 3) = some 153 := tv_rg (th_fd hD hth r0 (g := GG_150) rfl (k := 3) (t := (2, 0, 0, [153])) rfl rfl)
  have cr_0_4 : ta (w_ar ws (n_v vs 0) 4) = some 154 := tv_rg (th_fd hD hth r0 (g := GG_150) rfl (k := 4) (t := (2, 0, 0, [154])) rfl rfl)
  have br_0_3_1_0 : w_ei ws (w_ar ws (n_v vs 0) 3) (v_iv (n_v vs 1)) = w_el ws (w_ar ws (n_v vs 0) 3) (v_iv (n_v vs 1)).toNat := rfl
  have hK_0_3 : ∀ j : Int, 0 ≤ j → j < 4 → 0 ≤ w_ei ws (w_ar ws (n_v vs 0) 3) j ∧ w_ei ws (w_ar ws (n_v vs 0) 3) j ≤ 30 := fun j h0 h1 => th_el hD hth cr_0_3 (kd := 0) (n := 4) (m := 4) (lo := 0) (hi := 30) (rs := []) (L := []) rfl (by decide) (j := j.toNat) (by omega)
  have hK_0_4 : ∀ j : Int, 0 ≤ j → j < 4 → 0 ≤ w_ei ws (w_ar ws (n_v vs 0) 4) j ∧ w_ei ws (w_ar ws (n_v vs 0) 4) j ≤ 30 := fun j h0 h1 => th_el hD hth cr_0_4 (kd := 0) (n := 4) (m := 4) (lo := 0) (hi := 30) (rs := []) (L := []) rfl (by decide) (j := j.toNat) (by omega)
  have rf12 : tv_ok ta (0, 0, 66835, []) (n_v vs 12) := tv_in t12 (by first | omega | grind) (by first | omega | grind)
  refine ⟨List.forall_mem_cons.mpr ⟨rf12, (fun _ h => (by cases h))⟩, [], trivial, ?_, (fun _ h => (by cases h))⟩
  rw [List.append_nil]
  exact (fun _ h => (by cases h))
def o_Mo_step_at_gx_5 : or_T := (43, 14, [(3, (0, 0, 3, [])), (4, (0, 0, 16169, [])), (7, (0, 0, 0, [])), (8, (5, 0, 66297, [539])), (9, (0, 0, 82466, [])), (10, (0, 1, 1, [])), (11, (5, 0, 66297, [539])), (12, (0, 0, 66835, [])), (13, (0, -1, 255, [])), (6, (2, 0, 0, [152]))], [(10, [13, 6, 12], []), (1, [12, 11, 4], []), (23, [11, 3, 10], [0, 1, -16709, -539]), (23, [11, 3, 10], [0, -1, 16709, 539]), (1, [9, 8, 4], []), (23, [8, 3, 7], [0, 1, -16709, -539]), (23, [8, 3, 7], [0, -1, 16709, 539])], [], [], [(18, [9, 13], [1])], [], [(12, 4, 0, 66297), (12, 11, 0, 16169), (9, 4, 0, 66297), (9, 8, 0, 16169), (3, 4, -4294967296, 3)])
theorem oo_Mo_step_at_gx_5 {kA : Nat → ClassId} : or_ok kA GG o_Mo_step_at_gx_5 := by
  intro A ta ws vs hD hth hl hk hds hf
  have hl : vs.length = 14 := hl
  have hk : ∀ q ∈ ([(3, (0, 0, 3, [])), (4, (0, 0, 16169, [])), (7, (0, 0, 0, [])), (8, (5, 0, 66297, [539])), (9, (0, 0, 82466, [])), (10, (0, 1, 1, [])), (11, (5, 0, 66297, [539])), (12, (0, 0, 66835, [])), (13, (0, -1, 255, [])), (6, (2, 0, 0, [152]))] : List (Nat × tv_T)), tv_ok ta q.2 (n_v vs q.1) := hk
  obtain ⟨t3, hk⟩ := List.forall_mem_cons.mp hk
  have t3 : tv_ok ta (0, 0, 3, []) (n_v vs 3) := t3
  have k3 : 0 ≤ v_iv (n_v vs 3) ∧ v_iv (n_v vs 3) ≤ 3 := tv_rng t3
  obtain ⟨t4, hk⟩ := List.forall_mem_cons.mp hk
  have t4 : tv_ok ta (0, 0, 16169, []) (n_v vs 4) := t4
  have k4 : 0 ≤ v_iv (n_v vs 4) ∧ v_iv (n_v vs 4) ≤ 16169 := tv_rng t4
  obtain ⟨t7, hk⟩ := List.forall_mem_cons.mp hk
  have t7 : tv_ok ta (0, 0, 0, []) (n_v vs 7) := t7
  have k7 : 0 ≤ v_iv (n_v vs 7) ∧ v_iv (n_v vs 7) ≤ 0 := tv_rng t7
  obtain ⟨t8, hk⟩ := List.forall_mem_cons.mp hk
  have t8 : tv_ok ta (5, 0, 66297, [539]) (n_v vs 8) := t8
  obtain ⟨k8, q8_⟩ : (0 ≤ v_iv (n_v vs 8) ∧ v_iv (n_v vs 8) ≤ 66297) ∧ ∃ q : Int, v_iv (n_v vs 8) = 539 * q := tv_dvk t8
  obtain ⟨q8, hq8⟩ := q8_
  obtain ⟨t9, hk⟩ := List.forall_mem_cons.mp hk
  have t9 : tv_ok ta (0, 0, 82466, []) (n_v vs 9) := t9
  have k9 : 0 ≤ v_iv (n_v vs 9) ∧ v_iv (n_v vs 9) ≤ 82466 := tv_rng t9
  obtain ⟨t10, hk⟩ := List.forall_mem_cons.mp hk
  have t10 : tv_ok ta (0, 1, 1, []) (n_v vs 10) := t10
  have k10 : 1 ≤ v_iv (n_v vs 10) ∧ v_iv (n_v vs 10) ≤ 1 := tv_rng t10
  obtain ⟨t11, hk⟩ := List.forall_mem_cons.mp hk
  have t11 : tv_ok ta (5, 0, 66297, [539]) (n_v vs 11) := t11
  obtain ⟨k11, q11_⟩ : (0 ≤ v_iv (n_v vs 11) ∧ v_iv (n_v vs 11) ≤ 66297) ∧ ∃ q : Int, v_iv (n_v vs 11) = 539 * q := tv_dvk t11
  obtain ⟨q11, hq11⟩ := q11_
  obtain ⟨t12, hk⟩ := List.forall_mem_cons.mp hk
  have t12 : tv_ok ta (0, 0, 66835, []) (n_v vs 12) := t12
  have k12 : 0 ≤ v_iv (n_v vs 12) ∧ v_iv (n_v vs 12) ≤ 66835 := tv_rng t12
  obtain ⟨t13, hk⟩ := List.forall_mem_cons.mp hk
  have t13 : tv_ok ta (0, -1, 255, []) (n_v vs 13) := t13
  have k13 : (-1) ≤ v_iv (n_v vs 13) ∧ v_iv (n_v vs 13) ≤ 255 := tv_rng t13
  obtain ⟨t6, hk⟩ := List.forall_mem_cons.mp hk
  have t6 : tv_ok ta (2, 0, 0, [152]) (n_v vs 6) := t6
  have r6 : ta (v_ad (n_v vs 6)) = some 152 := tv_rg t6
  have hds : ∀ q ∈ ([(12, 4, 0, 66297), (12, 11, 0, 16169), (9, 4, 0, 66297), (9, 8, 0, 16169), (3, 4, -4294967296, 3)] : List of_T), n_iv vs q.2.1 + q.2.2.1 ≤ n_iv vs q.1 ∧ n_iv vs q.1 ≤ n_iv vs q.2.1 + q.2.2.2 := hds
  obtain ⟨d0, hds⟩ := List.forall_mem_cons.mp hds
  have d0 : v_iv (n_v vs 4) + 0 ≤ v_iv (n_v vs 12) ∧ v_iv (n_v vs 12) ≤ v_iv (n_v vs 4) + 66297 := d0
  obtain ⟨d1, hds⟩ := List.forall_mem_cons.mp hds
  have d1 : v_iv (n_v vs 11) + 0 ≤ v_iv (n_v vs 12) ∧ v_iv (n_v vs 12) ≤ v_iv (n_v vs 11) + 16169 := d1
  obtain ⟨d2, hds⟩ := List.forall_mem_cons.mp hds
  have d2 : v_iv (n_v vs 4) + 0 ≤ v_iv (n_v vs 9) ∧ v_iv (n_v vs 9) ≤ v_iv (n_v vs 4) + 66297 := d2
  obtain ⟨d3, hds⟩ := List.forall_mem_cons.mp hds
  have d3 : v_iv (n_v vs 8) + 0 ≤ v_iv (n_v vs 9) ∧ v_iv (n_v vs 9) ≤ v_iv (n_v vs 8) + 16169 := d3
  obtain ⟨d4, hds⟩ := List.forall_mem_cons.mp hds
  have d4 : v_iv (n_v vs 4) + (-4294967296) ≤ v_iv (n_v vs 3) ∧ v_iv (n_v vs 3) ≤ v_iv (n_v vs 4) + 3 := d4
  have hf : fc_ok [(10, [13, 6, 12], []), (1, [12, 11, 4], []), (23, [11, 3, 10], [0, 1, -16709, -539]), (23, [11, 3, 10], [0, -1, 16709, 539]), (1, [9, 8, 4], []), (23, [8, 3, 7], [0, 1, -16709, -539]), (23, [8, 3, 7], [0, -1, 16709, 539])] ta ws vs := hf
  obtain ⟨f0, hf⟩ := fc_un (show (10 : Nat) < 100 from by decide) hf
  have f0 : v_iv (n_v vs 13) = w_el ws (v_ad (n_v vs 6)) (v_iv (n_v vs 12)).toNat := f0
  obtain ⟨f1, hf⟩ := fc_un (show (1 : Nat) < 100 from by decide) hf
  have f1 : v_iv (n_v vs 12) = v_iv (n_v vs 11) + v_iv (n_v vs 4) := f1
  obtain ⟨f2, hf⟩ := fc_un (show (23 : Nat) < 100 from by decide) hf
  have f2 : 1 * v_iv (n_v vs 11) + ((-16709) * v_iv (n_v vs 3) + ((-539) * v_iv (n_v vs 10) + 0)) ≤ 0 := f2
  obtain ⟨f3, hf⟩ := fc_un (show (23 : Nat) < 100 from by decide) hf
  have f3 : (-1) * v_iv (n_v vs 11) + (16709 * v_iv (n_v vs 3) + (539 * v_iv (n_v vs 10) + 0)) ≤ 0 := f3
  obtain ⟨f4, hf⟩ := fc_un (show (1 : Nat) < 100 from by decide) hf
  have f4 : v_iv (n_v vs 9) = v_iv (n_v vs 8) + v_iv (n_v vs 4) := f4
  obtain ⟨f5, hf⟩ := fc_un (show (23 : Nat) < 100 from by decide) hf
  have f5 : 1 * v_iv (n_v vs 8) + ((-16709) * v_iv (n_v vs 3) + ((-539) * v_iv (n_v vs 7) + 0)) ≤ 0 := f5
  obtain ⟨f6, hf⟩ := fc_un (show (23 : Nat) < 100 from by decide) hf
  have f6 : (-1) * v_iv (n_v vs 8) + (16709 * v_iv (n_v vs 3) + (539 * v_iv (n_v vs 7) + 0)) ≤ 0 := f6
  have nf0 : fc_1 (18, [9, 13], [1]) ws (vs) := by
    refine ⟨fun n hn => ?_, ?_⟩
    · have hn : n ∈ [9, 13] := hn
      rw [hl]
      simp only [List.mem_cons, List.not_mem_nil, or_false] at hn
      show n < 14; omega
    · show pl_ok 1 (v_iv (n_v vs 9)).toNat (v_iv (n_v vs 13))
      have e0 := pl_cp hD hth r6 (g := GG_152) rfl rfl rfl pl_M1 (i := (v_iv (n_v vs 12)).toNat) (j := (v_iv (n_v vs 9)).toNat) (by show (v_iv (n_v vs 12)).toNat < 66836; omega) (by omega)
      rw [← f0] at e0
      exact e0
  refine ⟨(fun _ h => (by cases h)), [], trivial, ?_, (fun _ h => (by cases h))⟩
  rw [List.append_nil]
  exact List.forall_mem_cons.mpr ⟨⟨show (18 : Nat) < 100 from by decide, nf0⟩, (fun _ h => (by cases h))⟩
def o_Mo_step_at_gx_6 : or_T := (43, 14, [(0, (2, 0, 0, [150])), (1, (0, 0, 3, [])), (2, (2, 0, 0, [150])), (3, (0, 0, 3, [])), (4, (0, 0, 16169, [])), (5, (0, 16170, 16170, [])), (7, (0, 0, 0, [])), (8, (0, 0, 66297, [])), (9, (0, 0, 82466, [])), (10, (0, 1, 1, [])), (11, (0, 0, 66297, [])), (12, (0, 0, 66835, []))], [(1, [12, 11, 4], []), (23, [11, 3, 10], [0, 1, -16709, -539]), (23, [11, 3, 10], [0, -1, 16709, 539]), (1, [9, 8, 4], []), (23, [8, 3, 7], [0, 1, -16709, -539]), (23, [8, 3, 7], [0, -1, 16709, 539]), (7, [4, 5], [2]), (20, [2, 3], [30, -30, -1, 2, 3]), (20, [2], [50, 0, 2, 3, 4, 5, 2, 0, 4, 0, 5, 3, 0, 3, 7, 0, 3, 0, 4, 7, 0]), (24, [0, 2], []), (24, [1, 3], [])], [(9, (0, 0, 66835, []))], [], [], [], [(12, 4, 0, 66297), (12, 11, 0, 16169), (9, 4, 0, 66297), (9, 8, 0, 16169), (1, 3, -4294967296, 0), (1, 4, -4294967296, 3), (3, 1, -4294967296, 0), (3, 4, -4294967296, 3)])
theorem oo_Mo_step_at_gx_6 {kA : Nat → ClassId} : or_ok kA GG o_Mo_step_at_gx_6 := by
  intro A ta ws vs hD hth hl hk hds hf
  have hl : vs.length = 14 := hl
  have hk : ∀ q ∈ ([(0, (2, 0, 0, [150])), (1, (0, 0, 3, [])), (2, (2, 0, 0, [150])), (3, (0, 0, 3, [])), (4, (0, 0, 16169, [])), (5, (0, 16170, 16170, [])), (7, (0, 0, 0, [])), (8, (0, 0, 66297, [])), (9, (0, 0, 82466, [])), (10, (0, 1, 1, [])), (11, (0, 0, 66297, [])), (12, (0, 0, 66835, []))] : List (Nat × tv_T)), tv_ok ta q.2 (n_v vs q.1) := hk
  obtain ⟨t0, hk⟩ := List.forall_mem_cons.mp hk
  have t0 : tv_ok ta (2, 0, 0, [150]) (n_v vs 0) := t0
  have r0 : ta (v_ad (n_v vs 0)) = some 150 := tv_rg t0
  obtain ⟨t1, hk⟩ := List.forall_mem_cons.mp hk
  have t1 : tv_ok ta (0, 0, 3, []) (n_v vs 1) := t1
  have k1 : 0 ≤ v_iv (n_v vs 1) ∧ v_iv (n_v vs 1) ≤ 3 := tv_rng t1
  obtain ⟨t2, hk⟩ := List.forall_mem_cons.mp hk
  have t2 : tv_ok ta (2, 0, 0, [150]) (n_v vs 2) := t2
  have r2 : ta (v_ad (n_v vs 2)) = some 150 := tv_rg t2
  obtain ⟨t3, hk⟩ := List.forall_mem_cons.mp hk
  have t3 : tv_ok ta (0, 0, 3, []) (n_v vs 3) := t3
  have k3 : 0 ≤ v_iv (n_v vs 3) ∧ v_iv (n_v vs 3) ≤ 3 := tv_rng t3
  obtain ⟨t4, hk⟩ := List.forall_mem_cons.mp hk
  have t4 : tv_ok ta (0, 0, 16169, []) (n_v vs 4) := t4
  have k4 : 0 ≤ v_iv (n_v vs 4) ∧ v_iv (n_v vs 4) ≤ 16169 := tv_rng t4
  obtain ⟨t5, hk⟩ := List.forall_mem_cons.mp hk
  have t5 : tv_ok ta (0, 16170, 16170, []) (n_v vs 5) := t5
  have k5 : 16170 ≤ v_iv (n_v vs 5) ∧ v_iv (n_v vs 5) ≤ 16170 := tv_rng t5
  obtain ⟨t7, hk⟩ := List.forall_mem_cons.mp hk
  have t7 : tv_ok ta (0, 0, 0, []) (n_v vs 7) := t7
  have k7 : 0 ≤ v_iv (n_v vs 7) ∧ v_iv (n_v vs 7) ≤ 0 := tv_rng t7
  obtain ⟨t8, hk⟩ := List.forall_mem_cons.mp hk
  have t8 : tv_ok ta (0, 0, 66297, []) (n_v vs 8) := t8
  have k8 : 0 ≤ v_iv (n_v vs 8) ∧ v_iv (n_v vs 8) ≤ 66297 := tv_rng t8
  obtain ⟨t9, hk⟩ := List.forall_mem_cons.mp hk
  have t9 : tv_ok ta (0, 0, 82466, []) (n_v vs 9) := t9
  have k9 : 0 ≤ v_iv (n_v vs 9) ∧ v_iv (n_v vs 9) ≤ 82466 := tv_rng t9
  obtain ⟨t10, hk⟩ := List.forall_mem_cons.mp hk
  have t10 : tv_ok ta (0, 1, 1, []) (n_v vs 10) := t10
  have k10 : 1 ≤ v_iv (n_v vs 10) ∧ v_iv (n_v vs 10) ≤ 1 := tv_rng t10
  obtain ⟨t11, hk⟩ := List.forall_mem_cons.mp hk
  have t11 : tv_ok ta (0, 0, 66297, []) (n_v vs 11) := t11
  have k11 : 0 ≤ v_iv (n_v vs 11) ∧ v_iv (n_v vs 11) ≤ 66297 := tv_rng t11
  obtain ⟨t12, hk⟩ := List.forall_mem_cons.mp hk
  have t12 : tv_ok ta (0, 0, 66835, []) (n_v vs 12) := t12
  have k12 : 0 ≤ v_iv (n_v vs 12) ∧ v_iv (n_v vs 12) ≤ 66835 := tv_rng t12
  have hds : ∀ q ∈ ([(12, 4, 0, 66297), (12, 11, 0, 16169), (9, 4, 0, 66297), (9, 8, 0, 16169), (1, 3, -4294967296, 0), (1, 4, -4294967296, 3), (3, 1, -4294967296, 0), (3, 4, -4294967296, 3)] : List of_T), n_iv vs q.2.1 + q.2.2.1 ≤ n_iv vs q.1 ∧ n_iv vs q.1 ≤ n_iv vs q.2.1 + q.2.2.2 := hds
  obtain ⟨d0, hds⟩ := List.forall_mem_cons.mp hds
  have d0 : v_iv (n_v vs 4) + 0 ≤ v_iv (n_v vs 12) ∧ v_iv (n_v vs 12) ≤ v_iv (n_v vs 4) + 66297 := d0
  obtain ⟨d1, hds⟩ := List.forall_mem_cons.mp hds
  have d1 : v_iv (n_v vs 11) + 0 ≤ v_iv (n_v vs 12) ∧ v_iv (n_v vs 12) ≤ v_iv (n_v vs 11) + 16169 := d1
  obtain ⟨d2, hds⟩ := List.forall_mem_cons.mp hds
  have d2 : v_iv (n_v vs 4) + 0 ≤ v_iv (n_v vs 9) ∧ v_iv (n_v vs 9) ≤ v_iv (n_v vs 4) + 66297 := d2
  obtain ⟨d3, hds⟩ := List.forall_mem_cons.mp hds
  have d3 : v_iv (n_v vs 8) + 0 ≤ v_iv (n_v vs 9) ∧ v_iv (n_v vs 9) ≤ v_iv (n_v vs 8) + 16169 := d3
  obtain ⟨d4, hds⟩ := List.forall_mem_cons.mp hds
  have d4 : v_iv (n_v vs 3) + (-4294967296) ≤ v_iv (n_v vs 1) ∧ v_iv (n_v vs 1) ≤ v_iv (n_v vs 3) + 0 := d4
  obtain ⟨d5, hds⟩ := List.forall_mem_cons.mp hds
  have d5 : v_iv (n_v vs 4) + (-4294967296) ≤ v_iv (n_v vs 1) ∧ v_iv (n_v vs 1) ≤ v_iv (n_v vs 4) + 3 := d5
  obtain ⟨d6, hds⟩ := List.forall_mem_cons.mp hds
  have d6 : v_iv (n_v vs 1) + (-4294967296) ≤ v_iv (n_v vs 3) ∧ v_iv (n_v vs 3) ≤ v_iv (n_v vs 1) + 0 := d6
  obtain ⟨d7, hds⟩ := List.forall_mem_cons.mp hds
  have d7 : v_iv (n_v vs 4) + (-4294967296) ≤ v_iv (n_v vs 3) ∧ v_iv (n_v vs 3) ≤ v_iv (n_v vs 4) + 3 := d7
  have hf : fc_ok [(1, [12, 11, 4], []), (23, [11, 3, 10], [0, 1, -16709, -539]), (23, [11, 3, 10], [0, -1, 16709, 539]), (1, [9, 8, 4], []), (23, [8, 3, 7], [0, 1, -16709, -539]), (23, [8, 3, 7], [0, -1, 16709, 539]), (7, [4, 5], [2]), (20, [2, 3], [30, -30, -1, 2, 3]), (20, [2], [50, 0, 2, 3, 4, 5, 2, 0, 4, 0, 5, 3, 0, 3, 7, 0, 3, 0, 4, 7, 0]), (24, [0, 2], []), (24, [1, 3], [])] ta ws vs := hf
  obtain ⟨f0, hf⟩ := fc_un (show (1 : Nat) < 100 from by decide) hf
  have f0 : v_iv (n_v vs 12) = v_iv (n_v vs 11) + v_iv (n_v vs 4) := f0
  obtain ⟨f1, hf⟩ := fc_un (show (23 : Nat) < 100 from by decide) hf
  have f1 : 1 * v_iv (n_v vs 11) + ((-16709) * v_iv (n_v vs 3) + ((-539) * v_iv (n_v vs 10) + 0)) ≤ 0 := f1
  obtain ⟨f2, hf⟩ := fc_un (show (23 : Nat) < 100 from by decide) hf
  have f2 : (-1) * v_iv (n_v vs 11) + (16709 * v_iv (n_v vs 3) + (539 * v_iv (n_v vs 10) + 0)) ≤ 0 := f2
  obtain ⟨f3, hf⟩ := fc_un (show (1 : Nat) < 100 from by decide) hf
  have f3 : v_iv (n_v vs 9) = v_iv (n_v vs 8) + v_iv (n_v vs 4) := f3
  obtain ⟨f4, hf⟩ := fc_un (show (23 : Nat) < 100 from by decide) hf
  have f4 : 1 * v_iv (n_v vs 8) + ((-16709) * v_iv (n_v vs 3) + ((-539) * v_iv (n_v vs 7) + 0)) ≤ 0 := f4
  obtain ⟨f5, hf⟩ := fc_un (show (23 : Nat) < 100 from by decide) hf
  have f5 : (-1) * v_iv (n_v vs 8) + (16709 * v_iv (n_v vs 3) + (539 * v_iv (n_v vs 7) + 0)) ≤ 0 := f5
  obtain ⟨f6, hf⟩ := fc_un (show (7 : Nat) < 100 from by decide) hf
  have f6 : v_iv (n_v vs 4) < v_iv (n_v vs 5) := f6
  obtain ⟨f7, hf⟩ := fc_un (show (20 : Nat) < 100 from by decide) hf
  have f7 : (-1) * w_el ws (w_ar ws (n_v vs 2) 3) (v_iv (n_v vs 3)).toNat + 0 ≤ (-30) := f7
  obtain ⟨f8, hf⟩ := fc_un (show (20 : Nat) < 100 from by decide) hf
  have f8 : ∀ j0 : Int, 0 ≤ j0 → j0 < 4 → (w_ei ws (w_ar ws (n_v vs 2) 3) (j0) ≤ w_ei ws (w_ar ws (n_v vs 2) 4) (j0)) := f8
  obtain ⟨f9, hf⟩ := fc_un (show (24 : Nat) < 100 from by decide) hf
  have f9 : n_v vs 0 = n_v vs 2 := f9
  obtain ⟨f10, hf⟩ := fc_un (show (24 : Nat) < 100 from by decide) hf
  have f10 : n_v vs 1 = n_v vs 3 := f10
  have q2 : n_v vs 2 = n_v vs 0 := f9.symm
  have q3 : n_v vs 3 = n_v vs 1 := f10.symm
  rw [q3] at f1
  rw [q3] at f2
  rw [q3] at f4
  rw [q3] at f5
  rw [q2] at f7
  rw [q3] at f7
  rw [q2] at f8
  have cr_0_3 : ta (w_ar ws (n_v vs 0) 3) = some 153 := tv_rg (th_fd hD hth r0 (g := GG_150) rfl (k := 3) (t := (2, 0, 0, [153])) rfl rfl)
  have cr_0_4 : ta (w_ar ws (n_v vs 0) 4) = some 154 := tv_rg (th_fd hD hth r0 (g := GG_150) rfl (k := 4) (t := (2, 0, 0, [154])) rfl rfl)
  have br_0_3_1_0 : w_ei ws (w_ar ws (n_v vs 0) 3) (v_iv (n_v vs 1)) = w_el ws (w_ar ws (n_v vs 0) 3) (v_iv (n_v vs 1)).toNat := rfl
  have hK_0_3 : ∀ j : Int, 0 ≤ j → j < 4 → 0 ≤ w_ei ws (w_ar ws (n_v vs 0) 3) j ∧ w_ei ws (w_ar ws (n_v vs 0) 3) j ≤ 30 := fun j h0 h1 => th_el hD hth cr_0_3 (kd := 0) (n := 4) (m := 4) (lo := 0) (hi := 30) (rs := []) (L := []) rfl (by decide) (j := j.toNat) (by omega)
  have hK_0_4 : ∀ j : Int, 0 ≤ j → j < 4 → 0 ≤ w_ei ws (w_ar ws (n_v vs 0) 4) j ∧ w_ei ws (w_ar ws (n_v vs 0) 4) j ≤ 30 := fun j h0 h1 => th_el hD hth cr_0_4 (kd := 0) (n := 4) (m := 4) (lo := 0) (hi := 30) (rs := []) (L := []) rfl (by decide) (j := j.toNat) (by omega)
  have rf9 : tv_ok ta (0, 0, 66835, []) (n_v vs 9) := tv_in t9 (by first | omega | grind) (by first | omega | grind)
  refine ⟨List.forall_mem_cons.mpr ⟨rf9, (fun _ h => (by cases h))⟩, [], trivial, ?_, (fun _ h => (by cases h))⟩
  rw [List.append_nil]
  exact (fun _ h => (by cases h))
def o_Mo_step_at_gx_7 : or_T := (115, 11, [(0, (2, 0, 0, [150])), (1, (0, 0, 3, [])), (2, (2, 0, 0, [150])), (3, (0, 0, 3, [])), (4, (0, 0, 66297, [])), (7, (2, 0, 0, [153])), (8, (0, 0, 30, [])), (9, (0, 1, 1, [])), (10, (0, 1, 31, []))], [(1, [10, 8, 9], []), (10, [8, 7, 3], []), (9, [7, 2], [3]), (20, [2, 3], [30, 29, 1, 2, 3]), (20, [4, 3, 2, 3], [30, 0, 1, 0, 0, -16709, 0, 0, -539, 2, 3]), (20, [4, 3, 2, 3], [30, 0, -1, 0, 0, 16709, 0, 0, 539, 2, 3]), (20, [2], [50, 0, 2, 3, 4, 5, 2, 0, 4, 0, 5, 3, 0, 3, 7, 0, 3, 0, 4, 7, 0]), (24, [0, 2], []), (24, [1, 3], [])], [(10, (0, 1, 30, []))], [], [], [], [(10, 8, 1, 1), (1, 3, -4294967296, 0), (1, 4, -4294967296, 3), (3, 1, -4294967296, 0), (3, 4, -4294967296, 3), (4, 1, -4294967296, 66297), (4, 3, -4294967296, 66297)])
theorem oo_Mo_step_at_gx_7 {kA : Nat → ClassId} : or_ok kA GG o_Mo_step_at_gx_7 := by
  intro A ta ws vs hD hth hl hk hds hf
  have hl : vs.length = 11 := hl
  have hk : ∀ q ∈ ([(0, (2, 0, 0, [150])), (1, (0, 0, 3, [])), (2, (2, 0, 0, [150])), (3, (0, 0, 3, [])), (4, (0, 0, 66297, [])), (7, (2, 0, 0, [153])), (8, (0, 0, 30, [])), (9, (0, 1, 1, [])), (10, (0, 1, 31, []))] : List (Nat × tv_T)), tv_ok ta q.2 (n_v vs q.1) := hk
  obtain ⟨t0, hk⟩ := List.forall_mem_cons.mp hk
  have t0 : tv_ok ta (2, 0, 0, [150]) (n_v vs 0) := t0
  have r0 : ta (v_ad (n_v vs 0)) = some 150 := tv_rg t0
  obtain ⟨t1, hk⟩ := List.forall_mem_cons.mp hk
  have t1 : tv_ok ta (0, 0, 3, []) (n_v vs 1) := t1
  have k1 : 0 ≤ v_iv (n_v vs 1) ∧ v_iv (n_v vs 1) ≤ 3 := tv_rng t1
  obtain ⟨t2, hk⟩ := List.forall_mem_cons.mp hk
  have t2 : tv_ok ta (2, 0, 0, [150]) (n_v vs 2) := t2
  have r2 : ta (v_ad (n_v vs 2)) = some 150 := tv_rg t2
  obtain ⟨t3, hk⟩ := List.forall_mem_cons.mp hk
  have t3 : tv_ok ta (0, 0, 3, []) (n_v vs 3) := t3
  have k3 : 0 ≤ v_iv (n_v vs 3) ∧ v_iv (n_v vs 3) ≤ 3 := tv_rng t3
  obtain ⟨t4, hk⟩ := List.forall_mem_cons.mp hk
  have t4 : tv_ok ta (0, 0, 66297, []) (n_v vs 4) := t4
  have k4 : 0 ≤ v_iv (n_v vs 4) ∧ v_iv (n_v vs 4) ≤ 66297 := tv_rng t4
  obtain ⟨t7, hk⟩ := List.forall_mem_cons.mp hk
  have t7 : tv_ok ta (2, 0, 0, [153]) (n_v vs 7) := t7
  have r7 : ta (v_ad (n_v vs 7)) = some 153 := tv_rg t7
  obtain ⟨t8, hk⟩ := List.forall_mem_cons.mp hk
  have t8 : tv_ok ta (0, 0, 30, []) (n_v vs 8) := t8
  have k8 : 0 ≤ v_iv (n_v vs 8) ∧ v_iv (n_v vs 8) ≤ 30 := tv_rng t8
  obtain ⟨t9, hk⟩ := List.forall_mem_cons.mp hk
  have t9 : tv_ok ta (0, 1, 1, []) (n_v vs 9) := t9
  have k9 : 1 ≤ v_iv (n_v vs 9) ∧ v_iv (n_v vs 9) ≤ 1 := tv_rng t9
  obtain ⟨t10, hk⟩ := List.forall_mem_cons.mp hk
  have t10 : tv_ok ta (0, 1, 31, []) (n_v vs 10) := t10
  have k10 : 1 ≤ v_iv (n_v vs 10) ∧ v_iv (n_v vs 10) ≤ 31 := tv_rng t10
  have hds : ∀ q ∈ ([(10, 8, 1, 1), (1, 3, -4294967296, 0), (1, 4, -4294967296, 3), (3, 1, -4294967296, 0), (3, 4, -4294967296, 3), (4, 1, -4294967296, 66297), (4, 3, -4294967296, 66297)] : List of_T), n_iv vs q.2.1 + q.2.2.1 ≤ n_iv vs q.1 ∧ n_iv vs q.1 ≤ n_iv vs q.2.1 + q.2.2.2 := hds
  obtain ⟨d0, hds⟩ := List.forall_mem_cons.mp hds
  have d0 : v_iv (n_v vs 8) + 1 ≤ v_iv (n_v vs 10) ∧ v_iv (n_v vs 10) ≤ v_iv (n_v vs 8) + 1 := d0
  obtain ⟨d1, hds⟩ := List.forall_mem_cons.mp hds
  have d1 : v_iv (n_v vs 3) + (-4294967296) ≤ v_iv (n_v vs 1) ∧ v_iv (n_v vs 1) ≤ v_iv (n_v vs 3) + 0 := d1
  obtain ⟨d2, hds⟩ := List.forall_mem_cons.mp hds
  have d2 : v_iv (n_v vs 4) + (-4294967296) ≤ v_iv (n_v vs 1) ∧ v_iv (n_v vs 1) ≤ v_iv (n_v vs 4) + 3 := d2
  obtain ⟨d3, hds⟩ := List.forall_mem_cons.mp hds
  have d3 : v_iv (n_v vs 1) + (-4294967296) ≤ v_iv (n_v vs 3) ∧ v_iv (n_v vs 3) ≤ v_iv (n_v vs 1) + 0 := d3
  obtain ⟨d4, hds⟩ := List.forall_mem_cons.mp hds
  have d4 : v_iv (n_v vs 4) + (-4294967296) ≤ v_iv (n_v vs 3) ∧ v_iv (n_v vs 3) ≤ v_iv (n_v vs 4) + 3 := d4
  obtain ⟨d5, hds⟩ := List.forall_mem_cons.mp hds
  have d5 : v_iv (n_v vs 1) + (-4294967296) ≤ v_iv (n_v vs 4) ∧ v_iv (n_v vs 4) ≤ v_iv (n_v vs 1) + 66297 := d5
  obtain ⟨d6, hds⟩ := List.forall_mem_cons.mp hds
  have d6 : v_iv (n_v vs 3) + (-4294967296) ≤ v_iv (n_v vs 4) ∧ v_iv (n_v vs 4) ≤ v_iv (n_v vs 3) + 66297 := d6
  have hf : fc_ok [(1, [10, 8, 9], []), (10, [8, 7, 3], []), (9, [7, 2], [3]), (20, [2, 3], [30, 29, 1, 2, 3]), (20, [4, 3, 2, 3], [30, 0, 1, 0, 0, -16709, 0, 0, -539, 2, 3]), (20, [4, 3, 2, 3], [30, 0, -1, 0, 0, 16709, 0, 0, 539, 2, 3]), (20, [2], [50, 0, 2, 3, 4, 5, 2, 0, 4, 0, 5, 3, 0, 3, 7, 0, 3, 0, 4, 7, 0]), (24, [0, 2], []), (24, [1, 3], [])] ta ws vs := hf
  obtain ⟨f0, hf⟩ := fc_un (show (1 : Nat) < 100 from by decide) hf
  have f0 : v_iv (n_v vs 10) = v_iv (n_v vs 8) + v_iv (n_v vs 9) := f0
  obtain ⟨f1, hf⟩ := fc_un (show (10 : Nat) < 100 from by decide) hf
  have f1 : v_iv (n_v vs 8) = w_el ws (v_ad (n_v vs 7)) (v_iv (n_v vs 3)).toNat := f1
  obtain ⟨f2, hf⟩ := fc_un (show (9 : Nat) < 100 from by decide) hf
  have f2 : n_v vs 7 = w_fd ws (v_ad (n_v vs 2)) 3 := f2
  obtain ⟨f3, hf⟩ := fc_un (show (20 : Nat) < 100 from by decide) hf
  have f3 : 1 * w_el ws (w_ar ws (n_v vs 2) 3) (v_iv (n_v vs 3)).toNat + 0 ≤ 29 := f3
  obtain ⟨f4, hf⟩ := fc_un (show (20 : Nat) < 100 from by decide) hf
  have f4 : 1 * v_iv (n_v vs 4) + ((-16709) * v_iv (n_v vs 3) + ((-539) * w_el ws (w_ar ws (n_v vs 2) 3) (v_iv (n_v vs 3)).toNat + 0)) ≤ 0 := f4
  obtain ⟨f5, hf⟩ := fc_un (show (20 : Nat) < 100 from by decide) hf
  have f5 : (-1) * v_iv (n_v vs 4) + (16709 * v_iv (n_v vs 3) + (539 * w_el ws (w_ar ws (n_v vs 2) 3) (v_iv (n_v vs 3)).toNat + 0)) ≤ 0 := f5
  obtain ⟨f6, hf⟩ := fc_un (show (20 : Nat) < 100 from by decide) hf
  have f6 : ∀ j0 : Int, 0 ≤ j0 → j0 < 4 → (w_ei ws (w_ar ws (n_v vs 2) 3) (j0) ≤ w_ei ws (w_ar ws (n_v vs 2) 4) (j0)) := f6
  obtain ⟨f7, hf⟩ := fc_un (show (24 : Nat) < 100 from by decide) hf
  have f7 : n_v vs 0 = n_v vs 2 := f7
  obtain ⟨f8, hf⟩ := fc_un (show (24 : Nat) < 100 from by decide) hf
  have f8 : n_v vs 1 = n_v vs 3 := f8
  have q2 : n_v vs 2 = n_v vs 0 := f7.symm
  have q3 : n_v vs 3 = n_v vs 1 := f8.symm
  rw [q3] at f1
  rw [q2] at f2
  rw [q2] at f3
  rw [q3] at f3
  rw [q2] at f4
  rw [q3] at f4
  rw [q2] at f5
  rw [q3] at f5
  rw [q2] at f6
  have cr_0_3 : ta (w_ar ws (n_v vs 0) 3) = some 153 := tv_rg (th_fd hD hth r0 (g := GG_150) rfl (k := 3) (t := (2, 0, 0, [153])) rfl rfl)
  have cr_0_4 : ta (w_ar ws (n_v vs 0) 4) = some 154 := tv_rg (th_fd hD hth r0 (g := GG_150) rfl (k := 4) (t := (2, 0, 0, [154])) rfl rfl)
  have ad_7 : v_ad (n_v vs 7) = w_ar ws (n_v vs 0) 3 := congrArg v_ad f2
  rw [ad_7] at f1
  have h1 : v_iv (n_v vs 8) = w_ei ws (w_ar ws (n_v vs 0) 3) (v_iv (n_v vs 1)) := f1
  have br_0_3_1_0 : w_ei ws (w_ar ws (n_v vs 0) 3) (v_iv (n_v vs 1)) = w_el ws (w_ar ws (n_v vs 0) 3) (v_iv (n_v vs 1)).toNat := rfl
  have hK_0_3 : ∀ j : Int, 0 ≤ j → j < 4 → 0 ≤ w_ei ws (w_ar ws (n_v vs 0) 3) j ∧ w_ei ws (w_ar ws (n_v vs 0) 3) j ≤ 30 := fun j h0 h1 => th_el hD hth cr_0_3 (kd := 0) (n := 4) (m := 4) (lo := 0) (hi := 30) (rs := []) (L := []) rfl (by decide) (j := j.toNat) (by omega)
  have hK_0_4 : ∀ j : Int, 0 ≤ j → j < 4 → 0 ≤ w_ei ws (w_ar ws (n_v vs 0) 4) j ∧ w_ei ws (w_ar ws (n_v vs 0) 4) j ≤ 30 := fun j h0 h1 => th_el hD hth cr_0_4 (kd := 0) (n := 4) (m := 4) (lo := 0) (hi := 30) (rs := []) (L := []) rfl (by decide) (j := j.toNat) (by omega)
  have rf10 : tv_ok ta (0, 1, 30, []) (n_v vs 10) := tv_in t10 (by first | omega | grind) (by first | omega | grind)
  refine ⟨List.forall_mem_cons.mpr ⟨rf10, (fun _ h => (by cases h))⟩, [], trivial, ?_, (fun _ h => (by cases h))⟩
  rw [List.append_nil]
  exact (fun _ h => (by cases h))
def o_Mo_step_at_gx_8 : or_T := (130, 13, [(0, (2, 0, 0, [150])), (1, (0, 0, 3, [])), (2, (2, 0, 0, [150])), (3, (0, 0, 3, [])), (4, (0, 0, 66297, [])), (7, (2, 0, 0, [153])), (8, (0, 0, 30, [])), (9, (0, 1, 1, [])), (10, (0, 1, 30, [])), (11, (2, 0, 0, [154])), (12, (0, 0, 30, []))], [(24, [0, 2], []), (24, [1, 3], []), (100, [11, 3, 12], []), (10, [12, 7, 3], []), (9, [7, 2], [3]), (9, [11, 2], [4]), (100, [7, 3, 10], []), (1, [10, 8, 9], []), (10, [8, 7, 3], []), (20, [2, 3], [30, 29, 1, 2, 3]), (20, [4, 3, 2, 3], [30, 0, 1, 0, 0, -16709, 0, 0, -539, 2, 3]), (20, [4, 3, 2, 3], [30, 0, -1, 0, 0, 16709, 0, 0, 539, 2, 3]), (20, [2], [50, 0, 2, 3, 4, 5, 2, 0, 4, 0, 5, 3, 0, 3, 7, 0, 3, 0, 4, 7, 0])], [], [], [(20, [2], [50, 0, 2, 3, 4, 5, 2, 0, 4, 0, 5, 3, 0, 3, 7, 0, 3, 0, 4, 7, 0])], [], [(10, 8, 1, 1), (1, 3, -4294967296, 0), (1, 4, -4294967296, 3), (3, 1, -4294967296, 0), (3, 4, -4294967296, 3), (4, 1, -4294967296, 66297), (4, 3, -4294967296, 66297)])
theorem oo_Mo_step_at_gx_8 {kA : Nat → ClassId} : or_ok kA GG o_Mo_step_at_gx_8 := by
  intro A ta ws vs hD hth hl hk hds hf
  have hl : vs.length = 13 := hl
  have hk : ∀ q ∈ ([(0, (2, 0, 0, [150])), (1, (0, 0, 3, [])), (2, (2, 0, 0, [150])), (3, (0, 0, 3, [])), (4, (0, 0, 66297, [])), (7, (2, 0, 0, [153])), (8, (0, 0, 30, [])), (9, (0, 1, 1, [])), (10, (0, 1, 30, [])), (11, (2, 0, 0, [154])), (12, (0, 0, 30, []))] : List (Nat × tv_T)), tv_ok ta q.2 (n_v vs q.1) := hk
  obtain ⟨t0, hk⟩ := List.forall_mem_cons.mp hk
  have t0 : tv_ok ta (2, 0, 0, [150]) (n_v vs 0) := t0
  have r0 : ta (v_ad (n_v vs 0)) = some 150 := tv_rg t0
  obtain ⟨t1, hk⟩ := List.forall_mem_cons.mp hk
  have t1 : tv_ok ta (0, 0, 3, []) (n_v vs 1) := t1
  have k1 : 0 ≤ v_iv (n_v vs 1) ∧ v_iv (n_v vs 1) ≤ 3 := tv_rng t1
  obtain ⟨t2, hk⟩ := List.forall_mem_cons.mp hk
  have t2 : tv_ok ta (2, 0, 0, [150]) (n_v vs 2) := t2
  have r2 : ta (v_ad (n_v vs 2)) = some 150 := tv_rg t2
  obtain ⟨t3, hk⟩ := List.forall_mem_cons.mp hk
  have t3 : tv_ok ta (0, 0, 3, []) (n_v vs 3) := t3
  have k3 : 0 ≤ v_iv (n_v vs 3) ∧ v_iv (n_v vs 3) ≤ 3 := tv_rng t3
  obtain ⟨t4, hk⟩ := List.forall_mem_cons.mp hk
  have t4 : tv_ok ta (0, 0, 66297, []) (n_v vs 4) := t4
  have k4 : 0 ≤ v_iv (n_v vs 4) ∧ v_iv (n_v vs 4) ≤ 66297 := tv_rng t4
  obtain ⟨t7, hk⟩ := List.forall_mem_cons.mp hk
  have t7 : tv_ok ta (2, 0, 0, [153]) (n_v vs 7) := t7
  have r7 : ta (v_ad (n_v vs 7)) = some 153 := tv_rg t7
  obtain ⟨t8, hk⟩ := List.forall_mem_cons.mp hk
  have t8 : tv_ok ta (0, 0, 30, []) (n_v vs 8) := t8
  have k8 : 0 ≤ v_iv (n_v vs 8) ∧ v_iv (n_v vs 8) ≤ 30 := tv_rng t8
  obtain ⟨t9, hk⟩ := List.forall_mem_cons.mp hk
  have t9 : tv_ok ta (0, 1, 1, []) (n_v vs 9) := t9
  have k9 : 1 ≤ v_iv (n_v vs 9) ∧ v_iv (n_v vs 9) ≤ 1 := tv_rng t9
  obtain ⟨t10, hk⟩ := List.forall_mem_cons.mp hk
  have t10 : tv_ok ta (0, 1, 30, []) (n_v vs 10) := t10
  have k10 : 1 ≤ v_iv (n_v vs 10) ∧ v_iv (n_v vs 10) ≤ 30 := tv_rng t10
  obtain ⟨t11, hk⟩ := List.forall_mem_cons.mp hk
  have t11 : tv_ok ta (2, 0, 0, [154]) (n_v vs 11) := t11
  have r11 : ta (v_ad (n_v vs 11)) = some 154 := tv_rg t11
  obtain ⟨t12, hk⟩ := List.forall_mem_cons.mp hk
  have t12 : tv_ok ta (0, 0, 30, []) (n_v vs 12) := t12
  have k12 : 0 ≤ v_iv (n_v vs 12) ∧ v_iv (n_v vs 12) ≤ 30 := tv_rng t12
  have hds : ∀ q ∈ ([(10, 8, 1, 1), (1, 3, -4294967296, 0), (1, 4, -4294967296, 3), (3, 1, -4294967296, 0), (3, 4, -4294967296, 3), (4, 1, -4294967296, 66297), (4, 3, -4294967296, 66297)] : List of_T), n_iv vs q.2.1 + q.2.2.1 ≤ n_iv vs q.1 ∧ n_iv vs q.1 ≤ n_iv vs q.2.1 + q.2.2.2 := hds
  obtain ⟨d0, hds⟩ := List.forall_mem_cons.mp hds
  have d0 : v_iv (n_v vs 8) + 1 ≤ v_iv (n_v vs 10) ∧ v_iv (n_v vs 10) ≤ v_iv (n_v vs 8) + 1 := d0
  obtain ⟨d1, hds⟩ := List.forall_mem_cons.mp hds
  have d1 : v_iv (n_v vs 3) + (-4294967296) ≤ v_iv (n_v vs 1) ∧ v_iv (n_v vs 1) ≤ v_iv (n_v vs 3) + 0 := d1
  obtain ⟨d2, hds⟩ := List.forall_mem_cons.mp hds
  have d2 : v_iv (n_v vs 4) + (-4294967296) ≤ v_iv (n_v vs 1) ∧ v_iv (n_v vs 1) ≤ v_iv (n_v vs 4) + 3 := d2
  obtain ⟨d3, hds⟩ := List.forall_mem_cons.mp hds
  have d3 : v_iv (n_v vs 1) + (-4294967296) ≤ v_iv (n_v vs 3) ∧ v_iv (n_v vs 3) ≤ v_iv (n_v vs 1) + 0 := d3
  obtain ⟨d4, hds⟩ := List.forall_mem_cons.mp hds
  have d4 : v_iv (n_v vs 4) + (-4294967296) ≤ v_iv (n_v vs 3) ∧ v_iv (n_v vs 3) ≤ v_iv (n_v vs 4) + 3 := d4
  obtain ⟨d5, hds⟩ := List.forall_mem_cons.mp hds
  have d5 : v_iv (n_v vs 1) + (-4294967296) ≤ v_iv (n_v vs 4) ∧ v_iv (n_v vs 4) ≤ v_iv (n_v vs 1) + 66297 := d5
  obtain ⟨d6, hds⟩ := List.forall_mem_cons.mp hds
  have d6 : v_iv (n_v vs 3) + (-4294967296) ≤ v_iv (n_v vs 4) ∧ v_iv (n_v vs 4) ≤ v_iv (n_v vs 3) + 66297 := d6
  have hf : fc_ok [(24, [0, 2], []), (24, [1, 3], []), (100, [11, 3, 12], []), (10, [12, 7, 3], []), (9, [7, 2], [3]), (9, [11, 2], [4]), (100, [7, 3, 10], []), (1, [10, 8, 9], []), (10, [8, 7, 3], []), (20, [2, 3], [30, 29, 1, 2, 3]), (20, [4, 3, 2, 3], [30, 0, 1, 0, 0, -16709, 0, 0, -539, 2, 3]), (20, [4, 3, 2, 3], [30, 0, -1, 0, 0, 16709, 0, 0, 539, 2, 3]), (20, [2], [50, 0, 2, 3, 4, 5, 2, 0, 4, 0, 5, 3, 0, 3, 7, 0, 3, 0, 4, 7, 0])] ta ws vs := hf
  obtain ⟨f0, hf⟩ := fc_un (show (24 : Nat) < 100 from by decide) hf
  have f0 : n_v vs 0 = n_v vs 2 := f0
  obtain ⟨f1, hf⟩ := fc_un (show (24 : Nat) < 100 from by decide) hf
  have f1 : n_v vs 1 = n_v vs 3 := f1
  obtain ⟨ta1, w1, le1, ⟨_, s1⟩, hf⟩ := fc_us (show ¬ (100 : Nat) < 100 from by decide) hf
  have s1 : (∀ b j, w_el ws b j = if b = v_ad (n_v vs 11) ∧ j = (v_iv (n_v vs 3)).toNat then v_iv (n_v vs 12) else w_el w1 b j) ∧ ∀ b k, w_fd ws b k = w_fd w1 b k := s1
  obtain ⟨f3, hf⟩ := fc_un (show (10 : Nat) < 100 from by decide) hf
  have f3 : v_iv (n_v vs 12) = w_el w1 (v_ad (n_v vs 7)) (v_iv (n_v vs 3)).toNat := f3
  obtain ⟨f4, hf⟩ := fc_un (show (9 : Nat) < 100 from by decide) hf
  have f4 : n_v vs 7 = w_fd w1 (v_ad (n_v vs 2)) 3 := f4
  obtain ⟨f5, hf⟩ := fc_un (show (9 : Nat) < 100 from by decide) hf
  have f5 : n_v vs 11 = w_fd w1 (v_ad (n_v vs 2)) 4 := f5
  obtain ⟨ta2, w2, le2, ⟨_, s2⟩, hf⟩ := fc_us (show ¬ (100 : Nat) < 100 from by decide) hf
  have s2 : (∀ b j, w_el w1 b j = if b = v_ad (n_v vs 7) ∧ j = (v_iv (n_v vs 3)).toNat then v_iv (n_v vs 10) else w_el w2 b j) ∧ ∀ b k, w_fd w1 b k = w_fd w2 b k := s2
  obtain ⟨f7, hf⟩ := fc_un (show (1 : Nat) < 100 from by decide) hf
  have f7 : v_iv (n_v vs 10) = v_iv (n_v vs 8) + v_iv (n_v vs 9) := f7
  obtain ⟨f8, hf⟩ := fc_un (show (10 : Nat) < 100 from by decide) hf
  have f8 : v_iv (n_v vs 8) = w_el w2 (v_ad (n_v vs 7)) (v_iv (n_v vs 3)).toNat := f8
  obtain ⟨f9, hf⟩ := fc_un (show (20 : Nat) < 100 from by decide) hf
  have f9 : 1 * w_el w2 (w_ar w2 (n_v vs 2) 3) (v_iv (n_v vs 3)).toNat + 0 ≤ 29 := f9
  obtain ⟨f10, hf⟩ := fc_un (show (20 : Nat) < 100 from by decide) hf
  have f10 : 1 * v_iv (n_v vs 4) + ((-16709) * v_iv (n_v vs 3) + ((-539) * w_el w2 (w_ar w2 (n_v vs 2) 3) (v_iv (n_v vs 3)).toNat + 0)) ≤ 0 := f10
  obtain ⟨f11, hf⟩ := fc_un (show (20 : Nat) < 100 from by decide) hf
  have f11 : (-1) * v_iv (n_v vs 4) + (16709 * v_iv (n_v vs 3) + (539 * w_el w2 (w_ar w2 (n_v vs 2) 3) (v_iv (n_v vs 3)).toNat + 0)) ≤ 0 := f11
  obtain ⟨f12, hf⟩ := fc_un (show (20 : Nat) < 100 from by decide) hf
  have f12 : ∀ j0 : Int, 0 ≤ j0 → j0 < 4 → (w_ei w2 (w_ar w2 (n_v vs 2) 3) (j0) ≤ w_ei w2 (w_ar w2 (n_v vs 2) 4) (j0)) := f12
  have q2 : n_v vs 2 = n_v vs 0 := f0.symm
  have q3 : n_v vs 3 = n_v vs 1 := f1.symm
  rw [q3] at s1
  rw [q3] at f3
  rw [q2] at f4
  rw [q2] at f5
  rw [q3] at s2
  rw [q3] at f8
  rw [q2] at f9
  rw [q3] at f9
  rw [q2] at f10
  rw [q3] at f10
  rw [q2] at f11
  rw [q3] at f11
  rw [q2] at f12
  have ar_0_3_1 : w_ar w1 (n_v vs 0) 3 = w_ar ws (n_v vs 0) 3 := by show v_ad (w_fd w1 _ _) = v_ad (w_fd ws _ _); rw [s1.2]
  have ar_0_3_2 : w_ar w2 (n_v vs 0) 3 = w_ar ws (n_v vs 0) 3 := by rw [← ar_0_3_1]; show v_ad (w_fd w2 _ _) = v_ad (w_fd w1 _ _); rw [s2.2]
  have cr_0_3 : ta (w_ar ws (n_v vs 0) 3) = some 153 := tv_rg (th_fd hD hth r0 (g := GG_150) rfl (k := 3) (t := (2, 0, 0, [153])) rfl rfl)
  have ar_0_4_1 : w_ar w1 (n_v vs 0) 4 = w_ar ws (n_v vs 0) 4 := by show v_ad (w_fd w1 _ _) = v_ad (w_fd ws _ _); rw [s1.2]
  have ar_0_4_2 : w_ar w2 (n_v vs 0) 4 = w_ar ws (n_v vs 0) 4 := by rw [← ar_0_4_1]; show v_ad (w_fd w2 _ _) = v_ad (w_fd w1 _ _); rw [s2.2]
  have cr_0_4 : ta (w_ar ws (n_v vs 0) 4) = some 154 := tv_rg (th_fd hD hth r0 (g := GG_150) rfl (k := 4) (t := (2, 0, 0, [154])) rfl rfl)
  have ad_7 : v_ad (n_v vs 7) = w_ar ws (n_v vs 0) 3 := (congrArg v_ad f4).trans ar_0_3_1
  have ad_11 : v_ad (n_v vs 11) = w_ar ws (n_v vs 0) 4 := (congrArg v_ad f5).trans ar_0_4_1
  rw [ad_7] at f3
  have h3 : v_iv (n_v vs 12) = w_ei w1 (w_ar ws (n_v vs 0) 3) (v_iv (n_v vs 1)) := f3
  rw [ad_7] at f8
  have h8 : v_iv (n_v vs 8) = w_ei w2 (w_ar ws (n_v vs 0) 3) (v_iv (n_v vs 1)) := f8
  rw [ar_0_3_2] at f9
  rw [ar_0_3_2] at f10
  rw [ar_0_3_2] at f11
  rw [ar_0_3_2] at f12
  rw [ar_0_4_2] at f12
  have ee_0_3_1_1 : w_el ws (w_ar ws (n_v vs 0) 3) (v_iv (n_v vs 1)).toNat = w_el w1 (w_ar ws (n_v vs 0) 3) (v_iv (n_v vs 1)).toNat := by rw [s1.1, if_neg (fun e => by have e1 := e.1; rw [← e1] at r11; rw [cr_0_3] at r11; exact absurd (Option.some.inj r11) (by decide))]
  have ee_0_3_1_2 : w_el w1 (w_ar ws (n_v vs 0) 3) (v_iv (n_v vs 1)).toNat = v_iv (n_v vs 10) := by rw [s2.1, if_pos ⟨ad_7.symm, rfl⟩]
  have br_0_3_1_0 : w_ei ws (w_ar ws (n_v vs 0) 3) (v_iv (n_v vs 1)) = w_el ws (w_ar ws (n_v vs 0) 3) (v_iv (n_v vs 1)).toNat := rfl
  have br_0_3_1_1 : w_ei w1 (w_ar ws (n_v vs 0) 3) (v_iv (n_v vs 1)) = w_el w1 (w_ar ws (n_v vs 0) 3) (v_iv (n_v vs 1)).toNat := rfl
  have br_0_3_1_2 : w_ei w2 (w_ar ws (n_v vs 0) 3) (v_iv (n_v vs 1)) = w_el w2 (w_ar ws (n_v vs 0) 3) (v_iv (n_v vs 1)).toNat := rfl
  have hE_0_3_1 : ∀ j : Int, w_ei ws (w_ar ws (n_v vs 0) 3) j = w_ei w1 (w_ar ws (n_v vs 0) 3) j := fun j => by unfold w_ei; rw [s1.1, if_neg (fun e => by have e1 := e.1; rw [← e1] at r11; rw [cr_0_3] at r11; exact absurd (Option.some.inj r11) (by decide))]
  have hE_0_3_2 : ∀ j : Int, 0 ≤ j → (j = v_iv (n_v vs 1) → w_ei w1 (w_ar ws (n_v vs 0) 3) j = v_iv (n_v vs 10)) ∧ (j ≠ v_iv (n_v vs 1) → w_ei w1 (w_ar ws (n_v vs 0) 3) j = w_ei w2 (w_ar ws (n_v vs 0) 3) j) := fun j hj => ⟨fun h => by unfold w_ei; rw [s2.1, if_pos ⟨ad_7.symm, by rw [h]⟩], fun h => by unfold w_ei; rw [s2.1, if_neg (fun e => h (by have := e.2; omega))]⟩
  have hK_0_3 : ∀ j : Int, 0 ≤ j → j < 4 → 0 ≤ w_ei ws (w_ar ws (n_v vs 0) 3) j ∧ w_ei ws (w_ar ws (n_v vs 0) 3) j ≤ 30 := fun j h0 h1 => th_el hD hth cr_0_3 (kd := 0) (n := 4) (m := 4) (lo := 0) (hi := 30) (rs := []) (L := []) rfl (by decide) (j := j.toNat) (by omega)
  have hE_0_4_1 : ∀ j : Int, 0 ≤ j → (j = v_iv (n_v vs 1) → w_ei ws (w_ar ws (n_v vs 0) 4) j = v_iv (n_v vs 12)) ∧ (j ≠ v_iv (n_v vs 1) → w_ei ws (w_ar ws (n_v vs 0) 4) j = w_ei w1 (w_ar ws (n_v vs 0) 4) j) := fun j hj => ⟨fun h => by unfold w_ei; rw [s1.1, if_pos ⟨ad_11.symm, by rw [h]⟩], fun h => by unfold w_ei; rw [s1.1, if_neg (fun e => h (by have := e.2; omega))]⟩
  have hE_0_4_2 : ∀ j : Int, w_ei w1 (w_ar ws (n_v vs 0) 4) j = w_ei w2 (w_ar ws (n_v vs 0) 4) j := fun j => by unfold w_ei; rw [s2.1, if_neg (fun e => by have e1 := e.1; rw [← e1] at r7; rw [cr_0_4] at r7; exact absurd (Option.some.inj r7) (by decide))]
  have hK_0_4 : ∀ j : Int, 0 ≤ j → j < 4 → 0 ≤ w_ei ws (w_ar ws (n_v vs 0) 4) j ∧ w_ei ws (w_ar ws (n_v vs 0) 4) j ≤ 30 := fun j h0 h1 => th_el hD hth cr_0_4 (kd := 0) (n := 4) (m := 4) (lo := 0) (hi := 30) (rs := []) (L := []) rfl (by decide) (j := j.toNat) (by omega)
  have nf0 : fc_1 (20, [2], [50, 0, 2, 3, 4, 5, 2, 0, 4, 0, 5, 3, 0, 3, 7, 0, 3, 0, 4, 7, 0]) ws (vs) := by
    refine ⟨fun n hn => ?_, ?_⟩
    · have hn : n ∈ [2] := hn
      rw [hl]
      simp only [List.mem_cons, List.not_mem_nil, or_false] at hn
      show n < 13; omega
    · show ∀ j0 : Int, 0 ≤ j0 → j0 < 4 → (w_ei ws (w_ar ws (n_v vs 2) 3) (j0) ≤ w_ei ws (w_ar ws (n_v vs 2) 4) (j0))
      rw [q2]
      first | omega | grind
  refine ⟨(fun _ h => (by cases h)), [], trivial, ?_, (fun _ h => (by cases h))⟩
  rw [List.append_nil]
  exact List.forall_mem_cons.mpr ⟨⟨show (20 : Nat) < 100 from by decide, nf0⟩, (fun _ h => (by cases h))⟩
def o_Mo_step_at_gx_9 : or_T := (138, 13, [(0, (2, 0, 0, [150])), (1, (0, 0, 3, [])), (2, (2, 0, 0, [150])), (3, (0, 0, 3, []))], [(20, [2], [50, 0, 2, 3, 4, 5, 2, 0, 4, 0, 5, 3, 0, 3, 7, 0, 3, 0, 4, 7, 0]), (24, [0, 2], []), (24, [1, 3], []), (20, [2, 3], [50, 1, 1, 5, 3, 1, 3, 2, 0, 5, 4, 6, 6, 2, 0, 16709, 1, 1, 6, 2, 0, 539, 3, 0, 3, 1, 1])], [], [], [(20, [0], [50, 0, 2, 3, 4, 5, 2, 0, 4, 0, 5, 3, 0, 3, 7, 0, 3, 0, 4, 7, 0]), (20, [0, 1], [50, 1, 1, 5, 3, 1, 3, 2, 0, 5, 4, 6, 6, 2, 0, 16709, 1, 1, 6, 2, 0, 539, 3, 0, 3, 1, 1])], [], [(1, 3, -4294967296, 0), (3, 1, -4294967296, 0)])
theorem oo_Mo_step_at_gx_9 {kA : Nat → ClassId} : or_ok kA GG o_Mo_step_at_gx_9 := by
  intro A ta ws vs hD hth hl hk hds hf
  have hl : vs.length = 13 := hl
  have hk : ∀ q ∈ ([(0, (2, 0, 0, [150])), (1, (0, 0, 3, [])), (2, (2, 0, 0, [150])), (3, (0, 0, 3, []))] : List (Nat × tv_T)), tv_ok ta q.2 (n_v vs q.1) := hk
  obtain ⟨t0, hk⟩ := List.forall_mem_cons.mp hk
  have t0 : tv_ok ta (2, 0, 0, [150]) (n_v vs 0) := t0
  have r0 : ta (v_ad (n_v vs 0)) = some 150 := tv_rg t0
  obtain ⟨t1, hk⟩ := List.forall_mem_cons.mp hk
  have t1 : tv_ok ta (0, 0, 3, []) (n_v vs 1) := t1
  have k1 : 0 ≤ v_iv (n_v vs 1) ∧ v_iv (n_v vs 1) ≤ 3 := tv_rng t1
  obtain ⟨t2, hk⟩ := List.forall_mem_cons.mp hk
  have t2 : tv_ok ta (2, 0, 0, [150]) (n_v vs 2) := t2
  have r2 : ta (v_ad (n_v vs 2)) = some 150 := tv_rg t2
  obtain ⟨t3, hk⟩ := List.forall_mem_cons.mp hk
  have t3 : tv_ok ta (0, 0, 3, []) (n_v vs 3) := t3
  have k3 : 0 ≤ v_iv (n_v vs 3) ∧ v_iv (n_v vs 3) ≤ 3 := tv_rng t3
  have hds : ∀ q ∈ ([(1, 3, -4294967296, 0), (3, 1, -4294967296, 0)] : List of_T), n_iv vs q.2.1 + q.2.2.1 ≤ n_iv vs q.1 ∧ n_iv vs q.1 ≤ n_iv vs q.2.1 + q.2.2.2 := hds
  obtain ⟨d0, hds⟩ := List.forall_mem_cons.mp hds
  have d0 : v_iv (n_v vs 3) + (-4294967296) ≤ v_iv (n_v vs 1) ∧ v_iv (n_v vs 1) ≤ v_iv (n_v vs 3) + 0 := d0
  obtain ⟨d1, hds⟩ := List.forall_mem_cons.mp hds
  have d1 : v_iv (n_v vs 1) + (-4294967296) ≤ v_iv (n_v vs 3) ∧ v_iv (n_v vs 3) ≤ v_iv (n_v vs 1) + 0 := d1
  have hf : fc_ok [(20, [2], [50, 0, 2, 3, 4, 5, 2, 0, 4, 0, 5, 3, 0, 3, 7, 0, 3, 0, 4, 7, 0]), (24, [0, 2], []), (24, [1, 3], []), (20, [2, 3], [50, 1, 1, 5, 3, 1, 3, 2, 0, 5, 4, 6, 6, 2, 0, 16709, 1, 1, 6, 2, 0, 539, 3, 0, 3, 1, 1])] ta ws vs := hf
  obtain ⟨f0, hf⟩ := fc_un (show (20 : Nat) < 100 from by decide) hf
  have f0 : ∀ j0 : Int, 0 ≤ j0 → j0 < 4 → (w_ei ws (w_ar ws (n_v vs 2) 3) (j0) ≤ w_ei ws (w_ar ws (n_v vs 2) 4) (j0)) := f0
  obtain ⟨f1, hf⟩ := fc_un (show (24 : Nat) < 100 from by decide) hf
  have f1 : n_v vs 0 = n_v vs 2 := f1
  obtain ⟨f2, hf⟩ := fc_un (show (24 : Nat) < 100 from by decide) hf
  have f2 : n_v vs 1 = n_v vs 3 := f2
  obtain ⟨f3, hf⟩ := fc_un (show (20 : Nat) < 100 from by decide) hf
  have f3 : w_fi ws (n_v vs 2) 5 = ((16709 * v_iv (n_v vs 3)) + (539 * w_ei ws (w_ar ws (n_v vs 2) 3) (v_iv (n_v vs 3)))) := f3
  have q2 : n_v vs 2 = n_v vs 0 := f1.symm
  have q3 : n_v vs 3 = n_v vs 1 := f2.symm
  rw [q2] at f0
  rw [q2] at f3
  rw [q3] at f3
  have cr_0_3 : ta (w_ar ws (n_v vs 0) 3) = some 153 := tv_rg (th_fd hD hth r0 (g := GG_150) rfl (k := 3) (t := (2, 0, 0, [153])) rfl rfl)
  have cr_0_4 : ta (w_ar ws (n_v vs 0) 4) = some 154 := tv_rg (th_fd hD hth r0 (g := GG_150) rfl (k := 4) (t := (2, 0, 0, [154])) rfl rfl)
  have hK_0_3 : ∀ j : Int, 0 ≤ j → j < 4 → 0 ≤ w_ei ws (w_ar ws (n_v vs 0) 3) j ∧ w_ei ws (w_ar ws (n_v vs 0) 3) j ≤ 30 := fun j h0 h1 => th_el hD hth cr_0_3 (kd := 0) (n := 4) (m := 4) (lo := 0) (hi := 30) (rs := []) (L := []) rfl (by decide) (j := j.toNat) (by omega)
  have hK_0_4 : ∀ j : Int, 0 ≤ j → j < 4 → 0 ≤ w_ei ws (w_ar ws (n_v vs 0) 4) j ∧ w_ei ws (w_ar ws (n_v vs 0) 4) j ≤ 30 := fun j h0 h1 => th_el hD hth cr_0_4 (kd := 0) (n := 4) (m := 4) (lo := 0) (hi := 30) (rs := []) (L := []) rfl (by decide) (j := j.toNat) (by omega)
  have nf0 : fc_1 (20, [0], [50, 0, 2, 3, 4, 5, 2, 0, 4, 0, 5, 3, 0, 3, 7, 0, 3, 0, 4, 7, 0]) ws (vs) := by
    refine ⟨fun n hn => ?_, ?_⟩
    · have hn : n ∈ [0] := hn
      rw [hl]
      simp only [List.mem_cons, List.not_mem_nil, or_false] at hn
      show n < 13; omega
    · show ∀ j0 : Int, 0 ≤ j0 → j0 < 4 → (w_ei ws (w_ar ws (n_v vs 0) 3) (j0) ≤ w_ei ws (w_ar ws (n_v vs 0) 4) (j0))
      first | omega | grind
  have nf1 : fc_1 (20, [0, 1], [50, 1, 1, 5, 3, 1, 3, 2, 0, 5, 4, 6, 6, 2, 0, 16709, 1, 1, 6, 2, 0, 539, 3, 0, 3, 1, 1]) ws (vs) := by
    refine ⟨fun n hn => ?_, ?_⟩
    · have hn : n ∈ [0, 1] := hn
      rw [hl]
      simp only [List.mem_cons, List.not_mem_nil, or_false] at hn
      show n < 13; omega
    · show w_fi ws (n_v vs 0) 5 = ((16709 * v_iv (n_v vs 1)) + (539 * w_ei ws (w_ar ws (n_v vs 0) 3) (v_iv (n_v vs 1))))
      first | omega | grind
  refine ⟨(fun _ h => (by cases h)), [], trivial, ?_, (fun _ h => (by cases h))⟩
  rw [List.append_nil]
  exact List.forall_mem_cons.mpr ⟨⟨show (20 : Nat) < 100 from by decide, nf0⟩, List.forall_mem_cons.mpr ⟨⟨show (20 : Nat) < 100 from by decide, nf1⟩, (fun _ h => (by cases h))⟩⟩
def o_Mo_step_at_gx_10 : or_T := (99, 13, [(4, (5, 0, 66297, [539])), (5, (0, 0, 538, [])), (8, (0, 539, 539, [])), (9, (5, 539, 66836, [539])), (10, (0, 539, 67374, [])), (11, (0, 0, 66835, [])), (12, (0, -1, 255, [])), (7, (2, 0, 0, [152]))], [(10, [12, 7, 11], []), (1, [11, 4, 5], []), (1, [10, 9, 5], []), (1, [9, 4, 8], [])], [], [], [(18, [10, 12], [1])], [], [(11, 5, 0, 66297), (11, 4, 0, 538), (11, 5, -4294967296, 66835), (10, 5, 539, 66836), (10, 9, 0, 538), (10, 4, 539, 1077), (10, 5, -4294967296, 67374), (9, 4, 539, 539), (9, 5, -4294967296, 66836), (4, 5, -4294967296, 66297)])
theorem oo_Mo_step_at_gx_10 {kA : Nat → ClassId} : or_ok kA GG o_Mo_step_at_gx_10 := by
  intro A ta ws vs hD hth hl hk hds hf
  have hl : vs.length = 13 := hl
  have hk : ∀ q ∈ ([(4, (5, 0, 66297, [539])), (5, (0, 0, 538, [])), (8, (0, 539, 539, [])), (9, (5, 539, 66836, [539])), (10, (0, 539, 67374, [])), (11, (0, 0, 66835, [])), (12, (0, -1, 255, [])), (7, (2, 0, 0, [152]))] : List (Nat × tv_T)), tv_ok ta q.2 (n_v vs q.1) := hk
  obtain ⟨t4, hk⟩ := List.forall_mem_cons.mp hk
  have t4 : tv_ok ta (5, 0, 66297, [539]) (n_v vs 4) := t4
  obtain ⟨k4, q4_⟩ : (0 ≤ v_iv (n_v vs 4) ∧ v_iv (n_v vs 4) ≤ 66297) ∧ ∃ q : Int, v_iv (n_v vs 4) = 539 * q := tv_dvk t4
  obtain ⟨q4, hq4⟩ := q4_
  obtain ⟨t5, hk⟩ := List.forall_mem_cons.mp hk
  have t5 : tv_ok ta (0, 0, 538, []) (n_v vs 5) := t5
  have k5 : 0 ≤ v_iv (n_v vs 5) ∧ v_iv (n_v vs 5) ≤ 538 := tv_rng t5
  obtain ⟨t8, hk⟩ := List.forall_mem_cons.mp hk
  have t8 : tv_ok ta (0, 539, 539, []) (n_v vs 8) := t8
  have k8 : 539 ≤ v_iv (n_v vs 8) ∧ v_iv (n_v vs 8) ≤ 539 := tv_rng t8
  obtain ⟨t9, hk⟩ := List.forall_mem_cons.mp hk
  have t9 : tv_ok ta (5, 539, 66836, [539]) (n_v vs 9) := t9
  obtain ⟨k9, q9_⟩ : (539 ≤ v_iv (n_v vs 9) ∧ v_iv (n_v vs 9) ≤ 66836) ∧ ∃ q : Int, v_iv (n_v vs 9) = 539 * q := tv_dvk t9
  obtain ⟨q9, hq9⟩ := q9_
  obtain ⟨t10, hk⟩ := List.forall_mem_cons.mp hk
  have t10 : tv_ok ta (0, 539, 67374, []) (n_v vs 10) := t10
  have k10 : 539 ≤ v_iv (n_v vs 10) ∧ v_iv (n_v vs 10) ≤ 67374 := tv_rng t10
  obtain ⟨t11, hk⟩ := List.forall_mem_cons.mp hk
  have t11 : tv_ok ta (0, 0, 66835, []) (n_v vs 11) := t11
  have k11 : 0 ≤ v_iv (n_v vs 11) ∧ v_iv (n_v vs 11) ≤ 66835 := tv_rng t11
  obtain ⟨t12, hk⟩ := List.forall_mem_cons.mp hk
  have t12 : tv_ok ta (0, -1, 255, []) (n_v vs 12) := t12
  have k12 : (-1) ≤ v_iv (n_v vs 12) ∧ v_iv (n_v vs 12) ≤ 255 := tv_rng t12
  obtain ⟨t7, hk⟩ := List.forall_mem_cons.mp hk
  have t7 : tv_ok ta (2, 0, 0, [152]) (n_v vs 7) := t7
  have r7 : ta (v_ad (n_v vs 7)) = some 152 := tv_rg t7
  have hds : ∀ q ∈ ([(11, 5, 0, 66297), (11, 4, 0, 538), (11, 5, -4294967296, 66835), (10, 5, 539, 66836), (10, 9, 0, 538), (10, 4, 539, 1077), (10, 5, -4294967296, 67374), (9, 4, 539, 539), (9, 5, -4294967296, 66836), (4, 5, -4294967296, 66297)] : List of_T), n_iv vs q.2.1 + q.2.2.1 ≤ n_iv vs q.1 ∧ n_iv vs q.1 ≤ n_iv vs q.2.1 + q.2.2.2 := hds
  obtain ⟨d0, hds⟩ := List.forall_mem_cons.mp hds
  have d0 : v_iv (n_v vs 5) + 0 ≤ v_iv (n_v vs 11) ∧ v_iv (n_v vs 11) ≤ v_iv (n_v vs 5) + 66297 := d0
  obtain ⟨d1, hds⟩ := List.forall_mem_cons.mp hds
  have d1 : v_iv (n_v vs 4) + 0 ≤ v_iv (n_v vs 11) ∧ v_iv (n_v vs 11) ≤ v_iv (n_v vs 4) + 538 := d1
  obtain ⟨d2, hds⟩ := List.forall_mem_cons.mp hds
  have d2 : v_iv (n_v vs 5) + (-4294967296) ≤ v_iv (n_v vs 11) ∧ v_iv (n_v vs 11) ≤ v_iv (n_v vs 5) + 66835 := d2
  obtain ⟨d3, hds⟩ := List.forall_mem_cons.mp hds
  have d3 : v_iv (n_v vs 5) + 539 ≤ v_iv (n_v vs 10) ∧ v_iv (n_v vs 10) ≤ v_iv (n_v vs 5) + 66836 := d3
  obtain ⟨d4, hds⟩ := List.forall_mem_cons.mp hds
  have d4 : v_iv (n_v vs 9) + 0 ≤ v_iv (n_v vs 10) ∧ v_iv (n_v vs 10) ≤ v_iv (n_v vs 9) + 538 := d4
  obtain ⟨d5, hds⟩ := List.forall_mem_cons.mp hds
  have d5 : v_iv (n_v vs 4) + 539 ≤ v_iv (n_v vs 10) ∧ v_iv (n_v vs 10) ≤ v_iv (n_v vs 4) + 1077 := d5
  obtain ⟨d6, hds⟩ := List.forall_mem_cons.mp hds
  have d6 : v_iv (n_v vs 5) + (-4294967296) ≤ v_iv (n_v vs 10) ∧ v_iv (n_v vs 10) ≤ v_iv (n_v vs 5) + 67374 := d6
  obtain ⟨d7, hds⟩ := List.forall_mem_cons.mp hds
  have d7 : v_iv (n_v vs 4) + 539 ≤ v_iv (n_v vs 9) ∧ v_iv (n_v vs 9) ≤ v_iv (n_v vs 4) + 539 := d7
  obtain ⟨d8, hds⟩ := List.forall_mem_cons.mp hds
  have d8 : v_iv (n_v vs 5) + (-4294967296) ≤ v_iv (n_v vs 9) ∧ v_iv (n_v vs 9) ≤ v_iv (n_v vs 5) + 66836 := d8
  obtain ⟨d9, hds⟩ := List.forall_mem_cons.mp hds
  have d9 : v_iv (n_v vs 5) + (-4294967296) ≤ v_iv (n_v vs 4) ∧ v_iv (n_v vs 4) ≤ v_iv (n_v vs 5) + 66297 := d9
  have hf : fc_ok [(10, [12, 7, 11], []), (1, [11, 4, 5], []), (1, [10, 9, 5], []), (1, [9, 4, 8], [])] ta ws vs := hf
  obtain ⟨f0, hf⟩ := fc_un (show (10 : Nat) < 100 from by decide) hf
  have f0 : v_iv (n_v vs 12) = w_el ws (v_ad (n_v vs 7)) (v_iv (n_v vs 11)).toNat := f0
  obtain ⟨f1, hf⟩ := fc_un (show (1 : Nat) < 100 from by decide) hf
  have f1 : v_iv (n_v vs 11) = v_iv (n_v vs 4) + v_iv (n_v vs 5) := f1
  obtain ⟨f2, hf⟩ := fc_un (show (1 : Nat) < 100 from by decide) hf
  have f2 : v_iv (n_v vs 10) = v_iv (n_v vs 9) + v_iv (n_v vs 5) := f2
  obtain ⟨f3, hf⟩ := fc_un (show (1 : Nat) < 100 from by decide) hf
  have f3 : v_iv (n_v vs 9) = v_iv (n_v vs 4) + v_iv (n_v vs 8) := f3
  have nf0 : fc_1 (18, [10, 12], [1]) ws (vs) := by
    refine ⟨fun n hn => ?_, ?_⟩
    · have hn : n ∈ [10, 12] := hn
      rw [hl]
      simp only [List.mem_cons, List.not_mem_nil, or_false] at hn
      show n < 13; omega
    · show pl_ok 1 (v_iv (n_v vs 10)).toNat (v_iv (n_v vs 12))
      have e0 := pl_cp hD hth r7 (g := GG_152) rfl rfl rfl pl_M1 (i := (v_iv (n_v vs 11)).toNat) (j := (v_iv (n_v vs 10)).toNat) (by show (v_iv (n_v vs 11)).toNat < 66836; omega) (by omega)
      rw [← f0] at e0
      exact e0
  refine ⟨(fun _ h => (by cases h)), [], trivial, ?_, (fun _ h => (by cases h))⟩
  rw [List.append_nil]
  exact List.forall_mem_cons.mpr ⟨⟨show (18 : Nat) < 100 from by decide, nf0⟩, (fun _ h => (by cases h))⟩
def o_Mo_step_at_gx_11 : or_T := (99, 13, [(0, (2, 0, 0, [150])), (1, (0, 0, 3, [])), (2, (2, 0, 0, [150])), (3, (0, 0, 3, [])), (4, (0, 0, 66297, [])), (5, (0, 0, 538, [])), (6, (0, 539, 539, [])), (8, (0, 539, 539, [])), (9, (0, 539, 66836, [])), (10, (0, 539, 67374, [])), (11, (0, 0, 66835, []))], [(1, [11, 4, 5], []), (1, [10, 9, 5], []), (1, [9, 4, 8], []), (7, [5, 6], [2]), (20, [2, 3], [30, 29, 1, 2, 3]), (20, [4, 3, 2, 3], [30, 0, 1, 0, 0, -16709, 0, 0, -539, 2, 3]), (20, [4, 3, 2, 3], [30, 0, -1, 0, 0, 16709, 0, 0, 539, 2, 3]), (20, [2], [50, 0, 2, 3, 4, 5, 2, 0, 4, 0, 5, 3, 0, 3, 7, 0, 3, 0, 4, 7, 0]), (24, [0, 2], []), (24, [1, 3], [])], [(10, (0, 539, 66835, []))], [], [], [], [(11, 5, 0, 66297), (11, 4, 0, 538), (11, 1, -4294967296, 66835), (11, 3, -4294967296, 66835), (11, 5, -4294967296, 66835), (10, 5, 539, 66836), (10, 9, 0, 538), (10, 4, 539, 1077), (10, 1, -4294967296, 67374), (10, 3, -4294967296, 67374), (10, 5, -4294967296, 67374), (9, 4, 539, 539), (9, 1, -4294967296, 66836), (9, 3, -4294967296, 66836), (9, 5, -4294967296, 66836), (1, 3, -4294967296, 0), (1, 4, -4294967296, 3), (1, 5, -4294967296, 3), (3, 1, -4294967296, 0), (3, 4, -4294967296, 3), (3, 5, -4294967296, 3), (4, 1, -4294967296, 66297), (4, 3, -4294967296, 66297), (4, 5, -4294967296, 66297)])
theorem oo_Mo_step_at_gx_11 {kA : Nat → ClassId} : or_ok kA GG o_Mo_step_at_gx_11 := by
  intro A ta ws vs hD hth hl hk hds hf
  have hl : vs.length = 13 := hl
  have hk : ∀ q ∈ ([(0, (2, 0, 0, [150])), (1, (0, 0, 3, [])), (2, (2, 0, 0, [150])), (3, (0, 0, 3, [])), (4, (0, 0, 66297, [])), (5, (0, 0, 538, [])), (6, (0, 539, 539, [])), (8, (0, 539, 539, [])), (9, (0, 539, 66836, [])), (10, (0, 539, 67374, [])), (11, (0, 0, 66835, []))] : List (Nat × tv_T)), tv_ok ta q.2 (n_v vs q.1) := hk
  obtain ⟨t0, hk⟩ := List.forall_mem_cons.mp hk
  have t0 : tv_ok ta (2, 0, 0, [150]) (n_v vs 0) := t0
  have r0 : ta (v_ad (n_v vs 0)) = some 150 := tv_rg t0
  obtain ⟨t1, hk⟩ := List.forall_mem_cons.mp hk
  have t1 : tv_ok ta (0, 0, 3, []) (n_v vs 1) := t1
  have k1 : 0 ≤ v_iv (n_v vs 1) ∧ v_iv (n_v vs 1) ≤ 3 := tv_rng t1
  obtain ⟨t2, hk⟩ := List.forall_mem_cons.mp hk
  have t2 : tv_ok ta (2, 0, 0, [150]) (n_v vs 2) := t2
  have r2 : ta (v_ad (n_v vs 2)) = some 150 := tv_rg t2
  obtain ⟨t3, hk⟩ := List.forall_mem_cons.mp hk
  have t3 : tv_ok ta (0, 0, 3, []) (n_v vs 3) := t3
  have k3 : 0 ≤ v_iv (n_v vs 3) ∧ v_iv (n_v vs 3) ≤ 3 := tv_rng t3
  obtain ⟨t4, hk⟩ := List.forall_mem_cons.mp hk
  have t4 : tv_ok ta (0, 0, 66297, []) (n_v vs 4) := t4
  have k4 : 0 ≤ v_iv (n_v vs 4) ∧ v_iv (n_v vs 4) ≤ 66297 := tv_rng t4
  obtain ⟨t5, hk⟩ := List.forall_mem_cons.mp hk
  have t5 : tv_ok ta (0, 0, 538, []) (n_v vs 5) := t5
  have k5 : 0 ≤ v_iv (n_v vs 5) ∧ v_iv (n_v vs 5) ≤ 538 := tv_rng t5
  obtain ⟨t6, hk⟩ := List.forall_mem_cons.mp hk
  have t6 : tv_ok ta (0, 539, 539, []) (n_v vs 6) := t6
  have k6 : 539 ≤ v_iv (n_v vs 6) ∧ v_iv (n_v vs 6) ≤ 539 := tv_rng t6
  obtain ⟨t8, hk⟩ := List.forall_mem_cons.mp hk
  have t8 : tv_ok ta (0, 539, 539, []) (n_v vs 8) := t8
  have k8 : 539 ≤ v_iv (n_v vs 8) ∧ v_iv (n_v vs 8) ≤ 539 := tv_rng t8
  obtain ⟨t9, hk⟩ := List.forall_mem_cons.mp hk
  have t9 : tv_ok ta (0, 539, 66836, []) (n_v vs 9) := t9
  have k9 : 539 ≤ v_iv (n_v vs 9) ∧ v_iv (n_v vs 9) ≤ 66836 := tv_rng t9
  obtain ⟨t10, hk⟩ := List.forall_mem_cons.mp hk
  have t10 : tv_ok ta (0, 539, 67374, []) (n_v vs 10) := t10
  have k10 : 539 ≤ v_iv (n_v vs 10) ∧ v_iv (n_v vs 10) ≤ 67374 := tv_rng t10
  obtain ⟨t11, hk⟩ := List.forall_mem_cons.mp hk
  have t11 : tv_ok ta (0, 0, 66835, []) (n_v vs 11) := t11
  have k11 : 0 ≤ v_iv (n_v vs 11) ∧ v_iv (n_v vs 11) ≤ 66835 := tv_rng t11
  have hds : ∀ q ∈ ([(11, 5, 0, 66297), (11, 4, 0, 538), (11, 1, -4294967296, 66835), (11, 3, -4294967296, 66835), (11, 5, -4294967296, 66835), (10, 5, 539, 66836), (10, 9, 0, 538), (10, 4, 539, 1077), (10, 1, -4294967296, 67374), (10, 3, -4294967296, 67374), (10, 5, -4294967296, 67374), (9, 4, 539, 539), (9, 1, -4294967296, 66836), (9, 3, -4294967296, 66836), (9, 5, -4294967296, 66836), (1, 3, -4294967296, 0), (1, 4, -4294967296, 3), (1, 5, -4294967296, 3), (3, 1, -4294967296, 0), (3, 4, -4294967296, 3), (3, 5, -4294967296, 3), (4, 1, -4294967296, 66297), (4, 3, -4294967296, 66297), (4, 5, -4294967296, 66297)] : List of_T), n_iv vs q.2.1 + q.2.2.1 ≤ n_iv vs q.1 ∧ n_iv vs q.1 ≤ n_iv vs q.2.1 + q.2.2.2 := hds
  obtain ⟨d0, hds⟩ := List.forall_mem_cons.mp hds
  have d0 : v_iv (n_v vs 5) + 0 ≤ v_iv (n_v vs 11) ∧ v_iv (n_v vs 11) ≤ v_iv (n_v vs 5) + 66297 := d0
  obtain ⟨d1, hds⟩ := List.forall_mem_cons.mp hds
  have d1 : v_iv (n_v vs 4) + 0 ≤ v_iv (n_v vs 11) ∧ v_iv (n_v vs 11) ≤ v_iv (n_v vs 4) + 538 := d1
  obtain ⟨d2, hds⟩ := List.forall_mem_cons.mp hds
  have d2 : v_iv (n_v vs 1) + (-4294967296) ≤ v_iv (n_v vs 11) ∧ v_iv (n_v vs 11) ≤ v_iv (n_v vs 1) + 66835 := d2
  obtain ⟨d3, hds⟩ := List.forall_mem_cons.mp hds
  have d3 : v_iv (n_v vs 3) + (-4294967296) ≤ v_iv (n_v vs 11) ∧ v_iv (n_v vs 11) ≤ v_iv (n_v vs 3) + 66835 := d3
  obtain ⟨d4, hds⟩ := List.forall_mem_cons.mp hds
  have d4 : v_iv (n_v vs 5) + (-4294967296) ≤ v_iv (n_v vs 11) ∧ v_iv (n_v vs 11) ≤ v_iv (n_v vs 5) + 66835 := d4
  obtain ⟨d5, hds⟩ := List.forall_mem_cons.mp hds
  have d5 : v_iv (n_v vs 5) + 539 ≤ v_iv (n_v vs 10) ∧ v_iv (n_v vs 10) ≤ v_iv (n_v vs 5) + 66836 := d5
  obtain ⟨d6, hds⟩ := List.forall_mem_cons.mp hds
  have d6 : v_iv (n_v vs 9) + 0 ≤ v_iv (n_v vs 10) ∧ v_iv (n_v vs 10) ≤ v_iv (n_v vs 9) + 538 := d6
  obtain ⟨d7, hds⟩ := List.forall_mem_cons.mp hds
  have d7 : v_iv (n_v vs 4) + 539 ≤ v_iv (n_v vs 10) ∧ v_iv (n_v vs 10) ≤ v_iv (n_v vs 4) + 1077 := d7
  obtain ⟨d8, hds⟩ := List.forall_mem_cons.mp hds
  have d8 : v_iv (n_v vs 1) + (-4294967296) ≤ v_iv (n_v vs 10) ∧ v_iv (n_v vs 10) ≤ v_iv (n_v vs 1) + 67374 := d8
  obtain ⟨d9, hds⟩ := List.forall_mem_cons.mp hds
  have d9 : v_iv (n_v vs 3) + (-4294967296) ≤ v_iv (n_v vs 10) ∧ v_iv (n_v vs 10) ≤ v_iv (n_v vs 3) + 67374 := d9
  obtain ⟨d10, hds⟩ := List.forall_mem_cons.mp hds
  have d10 : v_iv (n_v vs 5) + (-4294967296) ≤ v_iv (n_v vs 10) ∧ v_iv (n_v vs 10) ≤ v_iv (n_v vs 5) + 67374 := d10
  obtain ⟨d11, hds⟩ := List.forall_mem_cons.mp hds
  have d11 : v_iv (n_v vs 4) + 539 ≤ v_iv (n_v vs 9) ∧ v_iv (n_v vs 9) ≤ v_iv (n_v vs 4) + 539 := d11
  obtain ⟨d12, hds⟩ := List.forall_mem_cons.mp hds
  have d12 : v_iv (n_v vs 1) + (-4294967296) ≤ v_iv (n_v vs 9) ∧ v_iv (n_v vs 9) ≤ v_iv (n_v vs 1) + 66836 := d12
  obtain ⟨d13, hds⟩ := List.forall_mem_cons.mp hds
  have d13 : v_iv (n_v vs 3) + (-4294967296) ≤ v_iv (n_v vs 9) ∧ v_iv (n_v vs 9) ≤ v_iv (n_v vs 3) + 66836 := d13
  obtain ⟨d14, hds⟩ := List.forall_mem_cons.mp hds
  have d14 : v_iv (n_v vs 5) + (-4294967296) ≤ v_iv (n_v vs 9) ∧ v_iv (n_v vs 9) ≤ v_iv (n_v vs 5) + 66836 := d14
  obtain ⟨d15, hds⟩ := List.forall_mem_cons.mp hds
  have d15 : v_iv (n_v vs 3) + (-4294967296) ≤ v_iv (n_v vs 1) ∧ v_iv (n_v vs 1) ≤ v_iv (n_v vs 3) + 0 := d15
  obtain ⟨d16, hds⟩ := List.forall_mem_cons.mp hds
  have d16 : v_iv (n_v vs 4) + (-4294967296) ≤ v_iv (n_v vs 1) ∧ v_iv (n_v vs 1) ≤ v_iv (n_v vs 4) + 3 := d16
  obtain ⟨d17, hds⟩ := List.forall_mem_cons.mp hds
  have d17 : v_iv (n_v vs 5) + (-4294967296) ≤ v_iv (n_v vs 1) ∧ v_iv (n_v vs 1) ≤ v_iv (n_v vs 5) + 3 := d17
  obtain ⟨d18, hds⟩ := List.forall_mem_cons.mp hds
  have d18 : v_iv (n_v vs 1) + (-4294967296) ≤ v_iv (n_v vs 3) ∧ v_iv (n_v vs 3) ≤ v_iv (n_v vs 1) + 0 := d18
  obtain ⟨d19, hds⟩ := List.forall_mem_cons.mp hds
  have d19 : v_iv (n_v vs 4) + (-4294967296) ≤ v_iv (n_v vs 3) ∧ v_iv (n_v vs 3) ≤ v_iv (n_v vs 4) + 3 := d19
  obtain ⟨d20, hds⟩ := List.forall_mem_cons.mp hds
  have d20 : v_iv (n_v vs 5) + (-4294967296) ≤ v_iv (n_v vs 3) ∧ v_iv (n_v vs 3) ≤ v_iv (n_v vs 5) + 3 := d20
  obtain ⟨d21, hds⟩ := List.forall_mem_cons.mp hds
  have d21 : v_iv (n_v vs 1) + (-4294967296) ≤ v_iv (n_v vs 4) ∧ v_iv (n_v vs 4) ≤ v_iv (n_v vs 1) + 66297 := d21
  obtain ⟨d22, hds⟩ := List.forall_mem_cons.mp hds
  have d22 : v_iv (n_v vs 3) + (-4294967296) ≤ v_iv (n_v vs 4) ∧ v_iv (n_v vs 4) ≤ v_iv (n_v vs 3) + 66297 := d22
  obtain ⟨d23, hds⟩ := List.forall_mem_cons.mp hds
  have d23 : v_iv (n_v vs 5) + (-4294967296) ≤ v_iv (n_v vs 4) ∧ v_iv (n_v vs 4) ≤ v_iv (n_v vs 5) + 66297 := d23
  have hf : fc_ok [(1, [11, 4, 5], []), (1, [10, 9, 5], []), (1, [9, 4, 8], []), (7, [5, 6], [2]), (20, [2, 3], [30, 29, 1, 2, 3]), (20, [4, 3, 2, 3], [30, 0, 1, 0, 0, -16709, 0, 0, -539, 2, 3]), (20, [4, 3, 2, 3], [30, 0, -1, 0, 0, 16709, 0, 0, 539, 2, 3]), (20, [2], [50, 0, 2, 3, 4, 5, 2, 0, 4, 0, 5, 3, 0, 3, 7, 0, 3, 0, 4, 7, 0]), (24, [0, 2], []), (24, [1, 3], [])] ta ws vs := hf
  obtain ⟨f0, hf⟩ := fc_un (show (1 : Nat) < 100 from by decide) hf
  have f0 : v_iv (n_v vs 11) = v_iv (n_v vs 4) + v_iv (n_v vs 5) := f0
  obtain ⟨f1, hf⟩ := fc_un (show (1 : Nat) < 100 from by decide) hf
  have f1 : v_iv (n_v vs 10) = v_iv (n_v vs 9) + v_iv (n_v vs 5) := f1
  obtain ⟨f2, hf⟩ := fc_un (show (1 : Nat) < 100 from by decide) hf
  have f2 : v_iv (n_v vs 9) = v_iv (n_v vs 4) + v_iv (n_v vs 8) := f2
  obtain ⟨f3, hf⟩ := fc_un (show (7 : Nat) < 100 from by decide) hf
  have f3 : v_iv (n_v vs 5) < v_iv (n_v vs 6) := f3
  obtain ⟨f4, hf⟩ := fc_un (show (20 : Nat) < 100 from by decide) hf
  have f4 : 1 * w_el ws (w_ar ws (n_v vs 2) 3) (v_iv (n_v vs 3)).toNat + 0 ≤ 29 := f4
  obtain ⟨f5, hf⟩ := fc_un (show (20 : Nat) < 100 from by decide) hf
  have f5 : 1 * v_iv (n_v vs 4) + ((-16709) * v_iv (n_v vs 3) + ((-539) * w_el ws (w_ar ws (n_v vs 2) 3) (v_iv (n_v vs 3)).toNat + 0)) ≤ 0 := f5
  obtain ⟨f6, hf⟩ := fc_un (show (20 : Nat) < 100 from by decide) hf
  have f6 : (-1) * v_iv (n_v vs 4) + (16709 * v_iv (n_v vs 3) + (539 * w_el ws (w_ar ws (n_v vs 2) 3) (v_iv (n_v vs 3)).toNat + 0)) ≤ 0 := f6
  obtain ⟨f7, hf⟩ := fc_un (show (20 : Nat) < 100 from by decide) hf
  have f7 : ∀ j0 : Int, 0 ≤ j0 → j0 < 4 → (w_ei ws (w_ar ws (n_v vs 2) 3) (j0) ≤ w_ei ws (w_ar ws (n_v vs 2) 4) (j0)) := f7
  obtain ⟨f8, hf⟩ := fc_un (show (24 : Nat) < 100 from by decide) hf
  have f8 : n_v vs 0 = n_v vs 2 := f8
  obtain ⟨f9, hf⟩ := fc_un (show (24 : Nat) < 100 from by decide) hf
  have f9 : n_v vs 1 = n_v vs 3 := f9
  have q2 : n_v vs 2 = n_v vs 0 := f8.symm
  have q3 : n_v vs 3 = n_v vs 1 := f9.symm
  rw [q2] at f4
  rw [q3] at f4
  rw [q2] at f5
  rw [q3] at f5
  rw [q2] at f6
  rw [q3] at f6
  rw [q2] at f7
  have cr_0_3 : ta (w_ar ws (n_v vs 0) 3) = some 153 := tv_rg (th_fd hD hth r0 (g := GG_150) rfl (k := 3) (t := (2, 0, 0, [153])) rfl rfl)
  have cr_0_4 : ta (w_ar ws (n_v vs 0) 4) = some 154 := tv_rg (th_fd hD hth r0 (g := GG_150) rfl (k := 4) (t := (2, 0, 0, [154])) rfl rfl)
  have br_0_3_1_0 : w_ei ws (w_ar ws (n_v vs 0) 3) (v_iv (n_v vs 1)) = w_el ws (w_ar ws (n_v vs 0) 3) (v_iv (n_v vs 1)).toNat := rfl
  have hK_0_3 : ∀ j : Int, 0 ≤ j → j < 4 → 0 ≤ w_ei ws (w_ar ws (n_v vs 0) 3) j ∧ w_ei ws (w_ar ws (n_v vs 0) 3) j ≤ 30 := fun j h0 h1 => th_el hD hth cr_0_3 (kd := 0) (n := 4) (m := 4) (lo := 0) (hi := 30) (rs := []) (L := []) rfl (by decide) (j := j.toNat) (by omega)
  have hK_0_4 : ∀ j : Int, 0 ≤ j → j < 4 → 0 ≤ w_ei ws (w_ar ws (n_v vs 0) 4) j ∧ w_ei ws (w_ar ws (n_v vs 0) 4) j ≤ 30 := fun j h0 h1 => th_el hD hth cr_0_4 (kd := 0) (n := 4) (m := 4) (lo := 0) (hi := 30) (rs := []) (L := []) rfl (by decide) (j := j.toNat) (by omega)
  have rf10 : tv_ok ta (0, 539, 66835, []) (n_v vs 10) := tv_in t10 (by first | omega | grind) (by first | omega | grind)
  refine ⟨List.forall_mem_cons.mpr ⟨rf10, (fun _ h => (by cases h))⟩, [], trivial, ?_, (fun _ h => (by cases h))⟩
  rw [List.append_nil]
  exact (fun _ h => (by cases h))
def n_Mo_step_at_gx_an : List an_T := [(13, [(0, (2, 0, 0, [150])), (1, (0, 0, 3, [])), (2, (0, 0, 16170, []))], [], (0, 0), [(0, 0, 99987), (1, 4, 16170), (0, 0, 100000)], [(1, 3, -1000000000000, 0), (1, 4, -1000000000000, 3), (3, 1, -1000000000000, 0), (3, 4, -1000000000000, 3)], [], [(2, 0, 0, [150]), (0, 0, 3, [])], 0, [], [(20, [2, 3], [30, -30, -1, 2, 3]), (20, [2], [50, 0, 2, 3, 4, 5, 2, 0, 4, 0, 5, 3, 0, 3, 7, 0, 3, 0, 4, 7, 0]), (24, [0, 2], []), (24, [1, 3], [])]), (73, [(0, (2, 0, 0, [150])), (1, (0, 0, 3, [])), (2, (5, 0, 66297, [539])), (3, (0, 0, 539, []))], [], (0, 0), [(0, 0, 99927), (1, 5, 539), (0, 0, 100000)], [(1, 3, -1000000000000, 0), (1, 4, -1000000000000, 3), (1, 5, -1000000000000, 3), (3, 1, -1000000000000, 0), (3, 4, -1000000000000, 3), (3, 5, -1000000000000, 3), (4, 1, -1000000000000, 66297), (4, 3, -1000000000000, 66297), (4, 5, -1000000000000, 66297)], [], [(2, 0, 0, [150]), (0, 0, 3, [])], 0, [], [(20, [2, 3], [30, 29, 1, 2, 3]), (20, [4, 3, 2, 3], [30, 0, 1, 0, 0, -16709, 0, 0, -539, 2, 3]), (20, [4, 3, 2, 3], [30, 0, -1, 0, 0, 16709, 0, 0, 539, 2, 3]), (20, [2], [50, 0, 2, 3, 4, 5, 2, 0, 4, 0, 5, 3, 0, 3, 7, 0, 3, 0, 4, 7, 0]), (24, [0, 2], []), (24, [1, 3], [])])]
def t_Mo_step_at_gx_ct : ct_L := [(0, 372, e_Mo_rowOf), (1, 524, e_Mo_changed), (1, 527, e_Mo_take)]
set_option maxRecDepth 100000 in
theorem c_Mo_step_at_gx {l : Launch} {D : va_G} {kA : Nat → ClassId} (h_Mo_changed : ct_ok l D kA GG y_Mo_changed z_Mo_changed e_Mo_changed) (h_Mo_rowOf : ct_ok l D kA GG y_Mo_rowOf z_Mo_rowOf e_Mo_rowOf) (h_Mo_take : ct_ok l D kA GG y_Mo_take z_Mo_take e_Mo_take) : ct_ok l D kA GG y_Mo_step_at_gx z_Mo_step_at_gx e_Mo_step_at_gx := chk_all_ok (FT := [(16, 13, 2), (20, 13, 3), (23, 13, 4)]) (PT := []) (CT := t_Mo_step_at_gx_ct) (KT := []) (NT := []) (AN := n_Mo_step_at_gx_an) (OT := [o_Mo_step_at_gx_0, o_Mo_step_at_gx_1, o_Mo_step_at_gx_2, o_Mo_step_at_gx_3, o_Mo_step_at_gx_4, o_Mo_step_at_gx_5, o_Mo_step_at_gx_6, o_Mo_step_at_gx_7, o_Mo_step_at_gx_8, o_Mo_step_at_gx_9, o_Mo_step_at_gx_10, o_Mo_step_at_gx_11]) 3 388 (List.forall_mem_cons.mpr ⟨oo_Mo_step_at_gx_0, List.forall_mem_cons.mpr ⟨oo_Mo_step_at_gx_1, List.forall_mem_cons.mpr ⟨oo_Mo_step_at_gx_2, List.forall_mem_cons.mpr ⟨oo_Mo_step_at_gx_3, List.forall_mem_cons.mpr ⟨oo_Mo_step_at_gx_4, List.forall_mem_cons.mpr ⟨oo_Mo_step_at_gx_5, List.forall_mem_cons.mpr ⟨oo_Mo_step_at_gx_6, List.forall_mem_cons.mpr ⟨oo_Mo_step_at_gx_7, List.forall_mem_cons.mpr ⟨oo_Mo_step_at_gx_8, List.forall_mem_cons.mpr ⟨oo_Mo_step_at_gx_9, List.forall_mem_cons.mpr ⟨oo_Mo_step_at_gx_10, List.forall_mem_cons.mpr ⟨oo_Mo_step_at_gx_11, List.forall_mem_nil _⟩⟩⟩⟩⟩⟩⟩⟩⟩⟩⟩⟩) (by decide +kernel) ⟨List.forall_mem_cons.mpr ⟨gf_Mo_16, List.forall_mem_cons.mpr ⟨gf_Mo_20, List.forall_mem_cons.mpr ⟨gf_Mo_23, List.forall_mem_nil _⟩⟩⟩, List.forall_mem_nil _, List.forall_mem_cons.mpr ⟨cl_static (y := y_Mo_rowOf) h_Mo_rowOf wm_2420 wm_9 wm_2418 wm_2419 ⟨by decide, by decide, by decide +kernel⟩ (by decide), List.forall_mem_cons.mpr ⟨cl_virtual (y := y_Mo_changed) (ci := 13) rfl rfl ⟨_, _, rfl⟩ (by decide +kernel) h_Mo_changed wm_3083 wm_9 wm_3080 wm_3082 wv_14_1 ⟨by decide, by decide, by decide +kernel⟩ (by decide), List.forall_mem_cons.mpr ⟨cl_virtual (y := y_Mo_take) (ci := 13) rfl rfl ⟨_, _, rfl⟩ (by decide +kernel) h_Mo_take wm_3091 wm_9 wm_3088 wm_3090 wv_14_2 ⟨by decide, by decide, by decide +kernel⟩ (by decide), List.forall_mem_nil _⟩⟩⟩, List.forall_mem_nil _, List.forall_mem_nil _, GG_pl⟩ (by decide +kernel)
