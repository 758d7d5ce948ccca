def o_Mo_of_at_s5003_22 : or_T := (135, 27, [(0, (2, 0, 0, [150])), (2, (0, 9, 9, [])), (3, (0, 0, 2000, [])), (5, (2, 0, 0, [150])), (7, (0, 9, 9, [])), (8, (0, -2147483648, 0, [])), (9, (0, 0, 2000, [])), (13, (0, 0, 2000, [])), (15, (0, 0, 2000, [])), (22, (0, 10, 2147483647, [])), (26, (0, 0, 0, []))], [(9, [22, 5], [14]), (8, [26], [5]), (9, [26, 5], [8]), (23, [15, 13], [0, 1, -1]), (23, [15, 13], [0, -1, 1]), (23, [3, 15], [-1, 1, -1]), (23, [9, 15], [-2000, -1, -1]), (23, [3, 13], [-1, 1, -1]), (23, [9, 13], [-2000, -1, -1]), (23, [8, 7], [0, 1, -1]), (23, [8], [0, -1]), (24, [0, 5], []), (24, [2, 7], []), (20, [5, 5], [30, 0, 1, 1, 15, -1, 1, 11]), (20, [5], [50, 3, 0, 12, 11, 15, 2, 21, 4, 7, 1, 3, 2, 0, 12, 0, 1, 0, 3, 2, 0, 11, 4, 3, 2, 0, 15, 0, 8, 3, 7, 1, 3, 2, 0, 12, 0, 0, 0, 7, 4, 3, 2, 0, 15, 0, 1, 2, 0, 11]), (20, [15, 5], [30, 0, 1, 0, 0, -1, 1, 11]), (20, [5], [30, -1, -1, 1, 8]), (102, [25], [0, 13008, 13009]), (23, [15, 13], [0, 1, -1]), (23, [15, 13], [0, -1, 1]), (23, [3, 15], [-1, 1, -1]), (23, [9, 15], [-2000, -1, -1]), (23, [3, 13], [-1, 1, -1]), (23, [9, 13], [-2000, -1, -1]), (23, [8, 7], [0, 1, -1]), (23, [8], [0, -1]), (102, [20], [0, 13008, 13009]), (23, [15, 13], [0, 1, -1]), (23, [15, 13], [0, -1, 1]), (23, [3, 15], [-1, 1, -1]), (23, [9, 15], [-2000, -1, -1]), (23, [3, 13], [-1, 1, -1]), (23, [9, 13], [-2000, -1, -1]), (23, [8, 7], [0, 1, -1]), (23, [8], [0, -1]), (102, [15], [0, 13008, 13009, 13011, 13012, 13013, 13014, 13015]), (23, [15, 13], [0, 1, -1]), (23, [15, 13], [0, -1, 1]), (23, [3, 15], [-1, 1, -1]), (23, [9, 15], [-2000, -1, -1]), (23, [3, 13], [-1, 1, -1]), (23, [9, 13], [-2000, -1, -1]), (23, [8, 7], [0, 1, -1]), (23, [8], [0, -1]), (102, [13], [0, 13011, 13012, 13013, 13014, 13015]), (23, [3, 13], [-1, 1, -1]), (23, [9, 13], [-2000, -1, -1]), (8, [8], [5]), (23, [8, 7], [0, 1, -1]), (23, [8], [0, -1]), (102, [11], [0]), (23, [8, 7], [0, 1, -1]), (23, [8], [0, -1])], [], [], [(23, [22, 7], [0, 1, -1]), (23, [22], [0, -1])], [], [(22, 7, 1, 4294967296), (2, 3, -4294967296, 9), (2, 7, -4294967296, 0), (2, 8, -4294967296, 2147483657), (3, 2, -4294967296, 1991), (3, 7, -4294967296, 1991), (3, 8, -4294967296, 2147485648), (7, 2, -4294967296, 0), (7, 3, -4294967296, 9), (7, 8, -4294967296, 2147483657), (8, 2, -4294967296, 2147483638), (8, 3, -4294967296, 2147483647), (8, 7, -4294967296, 2147483638)])
theorem oo_Mo_of_at_s5003_22 {kA : Nat → ClassId} : or_ok kA GG o_Mo_of_at_s5003_22 := by
  intro A ta ws vs hD hth hl hk hds hf
  have hl : vs.length = 27 := hl
  have hk : ∀ q ∈ ([(0, (2, 0, 0, [150])), (2, (0, 9, 9, [])), (3, (0, 0, 2000, [])), (5, (2, 0, 0, [150])), (7, (0, 9, 9, [])), (8, (0, -2147483648, 0, [])), (9, (0, 0, 2000, [])), (13, (0, 0, 2000, [])), (15, (0, 0, 2000, [])), (22, (0, 10, 2147483647, [])), (26, (0, 0, 0, []))] : List (Nat × tv_T)), tv_ok ta q.2 (n_v vs q.1) := hk
  obtain ⟨t0, hk⟩ := List.forall_mem_cons.mp hk
  have t0 : tv_ok ta (2, 0, 0, [150]) (n_v vs 0) := t0
  have r0 : ta (v_ad (n_v vs 0)) = some 150 := tv_rg t0
  obtain ⟨t2, hk⟩ := List.forall_mem_cons.mp hk
  have t2 : tv_ok ta (0, 9, 9, []) (n_v vs 2) := t2
  have k2 : 9 ≤ v_iv (n_v vs 2) ∧ v_iv (n_v vs 2) ≤ 9 := tv_rng t2
  obtain ⟨t3, hk⟩ := List.forall_mem_cons.mp hk
  have t3 : tv_ok ta (0, 0, 2000, []) (n_v vs 3) := t3
  have k3 : 0 ≤ v_iv (n_v vs 3) ∧ v_iv (n_v vs 3) ≤ 2000 := tv_rng t3
  obtain ⟨t5, hk⟩ := List.forall_mem_cons.mp hk
  have t5 : tv_ok ta (2, 0, 0, [150]) (n_v vs 5) := t5
  have r5 : ta (v_ad (n_v vs 5)) = some 150 := tv_rg t5
  obtain ⟨t7, hk⟩ := List.forall_mem_cons.mp hk
  have t7 : tv_ok ta (0, 9, 9, []) (n_v vs 7) := t7
  have k7 : 9 ≤ v_iv (n_v vs 7) ∧ v_iv (n_v vs 7) ≤ 9 := tv_rng t7
  obtain ⟨t8, hk⟩ := List.forall_mem_cons.mp hk
  have t8 : tv_ok ta (0, -2147483648, 0, []) (n_v vs 8) := t8
  have k8 : (-2147483648) ≤ v_iv (n_v vs 8) ∧ v_iv (n_v vs 8) ≤ 0 := tv_rng t8
  obtain ⟨t9, hk⟩ := List.forall_mem_cons.mp hk
  have t9 : tv_ok ta (0, 0, 2000, []) (n_v vs 9) := t9
  have k9 : 0 ≤ v_iv (n_v vs 9) ∧ v_iv (n_v vs 9) ≤ 2000 := tv_rng t9
  obtain ⟨t13, hk⟩ := List.forall_mem_cons.mp hk
  have t13 : tv_ok ta (0, 0, 2000, []) (n_v vs 13) := t13
  have k13 : 0 ≤ v_iv (n_v vs 13) ∧ v_iv (n_v vs 13) ≤ 2000 := tv_rng t13
  obtain ⟨t15, hk⟩ := List.forall_mem_cons.mp hk
  have t15 : tv_ok ta (0, 0, 2000, []) (n_v vs 15) := t15
  have k15 : 0 ≤ v_iv (n_v vs 15) ∧ v_iv (n_v vs 15) ≤ 2000 := tv_rng t15
  obtain ⟨t22, hk⟩ := List.forall_mem_cons.mp hk
  have t22 : tv_ok ta (0, 10, 2147483647, []) (n_v vs 22) := t22
  have k22 : 10 ≤ v_iv (n_v vs 22) ∧ v_iv (n_v vs 22) ≤ 2147483647 := tv_rng t22
  obtain ⟨t26, hk⟩ := List.forall_mem_cons.mp hk
  have t26 : tv_ok ta (0, 0, 0, []) (n_v vs 26) := t26
  have k26 : 0 ≤ v_iv (n_v vs 26) ∧ v_iv (n_v vs 26) ≤ 0 := tv_rng t26
  have hds : ∀ q ∈ ([(22, 7, 1, 4294967296), (2, 3, -4294967296, 9), (2, 7, -4294967296, 0), (2, 8, -4294967296, 2147483657), (3, 2, -4294967296, 1991), (3, 7, -4294967296, 1991), (3, 8, -4294967296, 2147485648), (7, 2, -4294967296, 0), (7, 3, -4294967296, 9), (7, 8, -4294967296, 2147483657), (8, 2, -4294967296, 2147483638), (8, 3, -4294967296, 2147483647), (8, 7, -4294967296, 2147483638)] : List of_T), n_iv vs q.2.1 + q.2.2.1 ≤ n_iv vs q.1 ∧ n_iv vs q.1 ≤ n_iv vs q.2.1 + q.2.2.2 := hds
  obtain ⟨d0, hds⟩ := List.forall_mem_cons.mp hds
  have d0 : v_iv (n_v vs 7) + 1 ≤ v_iv (n_v vs 22) ∧ v_iv (n_v vs 22) ≤ v_iv (n_v vs 7) + 4294967296 := d0
  obtain ⟨d1, hds⟩ := List.forall_mem_cons.mp hds
  have d1 : v_iv (n_v vs 3) + (-4294967296) ≤ v_iv (n_v vs 2) ∧ v_iv (n_v vs 2) ≤ v_iv (n_v vs 3) + 9 := d1
  obtain ⟨d2, hds⟩ := List.forall_mem_cons.mp hds
  have d2 : v_iv (n_v vs 7) + (-4294967296) ≤ v_iv (n_v vs 2) ∧ v_iv (n_v vs 2) ≤ v_iv (n_v vs 7) + 0 := d2
  obtain ⟨d3, hds⟩ := List.forall_mem_cons.mp hds
  have d3 : v_iv (n_v vs 8) + (-4294967296) ≤ v_iv (n_v vs 2) ∧ v_iv (n_v vs 2) ≤ v_iv (n_v vs 8) + 2147483657 := d3
  obtain ⟨d4, hds⟩ := List.forall_mem_cons.mp hds
  have d4 : v_iv (n_v vs 2) + (-4294967296) ≤ v_iv (n_v vs 3) ∧ v_iv (n_v vs 3) ≤ v_iv (n_v vs 2) + 1991 := d4
  obtain ⟨d5, hds⟩ := List.forall_mem_cons.mp hds
  have d5 : v_iv (n_v vs 7) + (-4294967296) ≤ v_iv (n_v vs 3) ∧ v_iv (n_v vs 3) ≤ v_iv (n_v vs 7) + 1991 := d5
  obtain ⟨d6, hds⟩ := List.forall_mem_cons.mp hds
  have d6 : v_iv (n_v vs 8) + (-4294967296) ≤ v_iv (n_v vs 3) ∧ v_iv (n_v vs 3) ≤ v_iv (n_v vs 8) + 2147485648 := d6
  obtain ⟨d7, hds⟩ := List.forall_mem_cons.mp hds
  have d7 : v_iv (n_v vs 2) + (-4294967296) ≤ v_iv (n_v vs 7) ∧ v_iv (n_v vs 7) ≤ v_iv (n_v vs 2) + 0 := d7
  obtain ⟨d8, hds⟩ := List.forall_mem_cons.mp hds
  have d8 : v_iv (n_v vs 3) + (-4294967296) ≤ v_iv (n_v vs 7) ∧ v_iv (n_v vs 7) ≤ v_iv (n_v vs 3) + 9 := d8
  obtain ⟨d9, hds⟩ := List.forall_mem_cons.mp hds
  have d9 : v_iv (n_v vs 8) + (-4294967296) ≤ v_iv (n_v vs 7) ∧ v_iv (n_v vs 7) ≤ v_iv (n_v vs 8) + 2147483657 := d9
  obtain ⟨d10, hds⟩ := List.forall_mem_cons.mp hds
  have d10 : v_iv (n_v vs 2) + (-4294967296) ≤ v_iv (n_v vs 8) ∧ v_iv (n_v vs 8) ≤ v_iv (n_v vs 2) + 2147483638 := d10
  obtain ⟨d11, hds⟩ := List.forall_mem_cons.mp hds
  have d11 : v_iv (n_v vs 3) + (-4294967296) ≤ v_iv (n_v vs 8) ∧ v_iv (n_v vs 8) ≤ v_iv (n_v vs 3) + 2147483647 := d11
  obtain ⟨d12, hds⟩ := List.forall_mem_cons.mp hds
  have d12 : v_iv (n_v vs 7) + (-4294967296) ≤ v_iv (n_v vs 8) ∧ v_iv (n_v vs 8) ≤ v_iv (n_v vs 7) + 2147483638 := d12
  have hf : fc_ok [(9, [22, 5], [14]), (8, [26], [5]), (9, [26, 5], [8]), (23, [15, 13], [0, 1, -1]), (23, [15, 13], [0, -1, 1]), (23, [3, 15], [-1, 1, -1]), (23, [9, 15], [-2000, -1, -1]), (23, [3, 13], [-1, 1, -1]), (23, [9, 13], [-2000, -1, -1]), (23, [8, 7], [0, 1, -1]), (23, [8], [0, -1]), (24, [0, 5], []), (24, [2, 7], []), (20, [5, 5], [30, 0, 1, 1, 15, -1, 1, 11]), (20, [5], [50, 3, 0, 12, 11, 15, 2, 21, 4, 7, 1, 3, 2, 0, 12, 0, 1, 0, 3, 2, 0, 11, 4, 3, 2, 0, 15, 0, 8, 3, 7, 1, 3, 2, 0, 12, 0, 0, 0, 7, 4, 3, 2, 0, 15, 0, 1, 2, 0, 11]), (20, [15, 5], [30, 0, 1, 0, 0, -1, 1, 11]), (20, [5], [30, -1, -1, 1, 8]), (102, [25], [0, 13008, 13009]), (23, [15, 13], [0, 1, -1]), (23, [15, 13], [0, -1, 1]), (23, [3, 15], [-1, 1, -1]), (23, [9, 15], [-2000, -1, -1]), (23, [3, 13], [-1, 1, -1]), (23, [9, 13], [-2000, -1, -1]), (23, [8, 7], [0, 1, -1]), (23, [8], [0, -1]), (102, [20], [0, 13008, 13009]), (23, [15, 13], [0, 1, -1]), (23, [15, 13], [0, -1, 1]), (23, [3, 15], [-1, 1, -1]), (23, [9, 15], [-2000, -1, -1]), (23, [3, 13], [-1, 1, -1]), (23, [9, 13], [-2000, -1, -1]), (23, [8, 7], [0, 1, -1]), (23, [8], [0, -1]), (102, [15], [0, 13008, 13009, 13011, 13012, 13013, 13014, 13015]), (23, [15, 13], [0, 1, -1]), (23, [15, 13], [0, -1, 1]), (23, [3, 15], [-1, 1, -1]), (23, [9, 15], [-2000, -1, -1]), (23, [3, 13], [-1, 1, -1]), (23, [9, 13], [-2000, -1, -1]), (23, [8, 7], [0, 1, -1]), (23, [8], [0, -1]), (102, [13], [0, 13011, 13012, 13013, 13014, 13015]), (23, [3, 13], [-1, 1, -1]), (23, [9, 13], [-2000, -1, -1]), (8, [8], [5]), (23, [8, 7], [0, 1, -1]), (23, [8], [0, -1]), (102, [11], [0]), (23, [8, 7], [0, 1, -1]), (23, [8], [0, -1])] ta ws vs := hf
  obtain ⟨f0, hf⟩ := fc_un (show (9 : Nat) < 100 from by decide) hf
  have f0 : n_v vs 22 = w_fd ws (v_ad (n_v vs 5)) 14 := f0
  obtain ⟨f1, hf⟩ := fc_un (show (8 : Nat) < 100 from by decide) hf
  have f1 : v_iv (n_v vs 26) ≤ 0 := f1
  obtain ⟨f2, hf⟩ := fc_un (show (9 : Nat) < 100 from by decide) hf
  have f2 : n_v vs 26 = w_fd ws (v_ad (n_v vs 5)) 8 := f2
  obtain ⟨f3, hf⟩ := fc_un (show (23 : Nat) < 100 from by decide) hf
  have f3 : 1 * v_iv (n_v vs 15) + ((-1) * v_iv (n_v vs 13) + 0) ≤ 0 := f3
  obtain ⟨f4, hf⟩ := fc_un (show (23 : Nat) < 100 from by decide) hf
  have f4 : (-1) * v_iv (n_v vs 15) + (1 * v_iv (n_v vs 13) + 0) ≤ 0 := f4
  obtain ⟨f5, hf⟩ := fc_un (show (23 : Nat) < 100 from by decide) hf
  have f5 : 1 * v_iv (n_v vs 3) + ((-1) * v_iv (n_v vs 15) + 0) ≤ (-1) := f5
  obtain ⟨f6, hf⟩ := fc_un (show (23 : Nat) < 100 from by decide) hf
  have f6 : (-1) * v_iv (n_v vs 9) + ((-1) * v_iv (n_v vs 15) + 0) ≤ (-2000) := f6
  obtain ⟨f7, hf⟩ := fc_un (show (23 : Nat) < 100 from by decide) hf
  have f7 : 1 * v_iv (n_v vs 3) + ((-1) * v_iv (n_v vs 13) + 0) ≤ (-1) := f7
  obtain ⟨f8, hf⟩ := fc_un (show (23 : Nat) < 100 from by decide) hf
  have f8 : (-1) * v_iv (n_v vs 9) + ((-1) * v_iv (n_v vs 13) + 0) ≤ (-2000) := f8
  obtain ⟨f9, hf⟩ := fc_un (show (23 : Nat) < 100 from by decide) hf
  have f9 : 1 * v_iv (n_v vs 8) + ((-1) * v_iv (n_v vs 7) + 0) ≤ 0 := f9
  obtain ⟨f10, hf⟩ := fc_un (show (23 : Nat) < 100 from by decide) hf
  have f10 : (-1) * v_iv (n_v vs 8) + 0 ≤ 0 := f10
  obtain ⟨f11, hf⟩ := fc_un (show (24 : Nat) < 100 from by decide) hf
  have f11 : n_v vs 0 = n_v vs 5 := f11
  obtain ⟨f12, hf⟩ := fc_un (show (24 : Nat) < 100 from by decide) hf
  have f12 : n_v vs 2 = n_v vs 7 := f12
  obtain ⟨f13, hf⟩ := fc_un (show (20 : Nat) < 100 from by decide) hf
  have f13 : 1 * w_fi ws (n_v vs 5) 15 + ((-1) * w_fi ws (n_v vs 5) 11 + 0) ≤ 0 := f13
  obtain ⟨f14, hf⟩ := fc_un (show (20 : Nat) < 100 from by decide) hf
  have f14 : ((w_fi ws (n_v vs 5) 12 = 1) → (w_fi ws (n_v vs 5) 11 ≤ (w_fi ws (n_v vs 5) 15 + 8))) ∧ ((w_fi ws (n_v vs 5) 12 = 0) ∨ ((w_fi ws (n_v vs 5) 15 + 1) ≤ w_fi ws (n_v vs 5) 11)) := f14
  obtain ⟨f15, hf⟩ := fc_un (show (20 : Nat) < 100 from by decide) hf
  have f15 : 1 * v_iv (n_v vs 15) + ((-1) * w_fi ws (n_v vs 5) 11 + 0) ≤ 0 := f15
  obtain ⟨f16, hf⟩ := fc_un (show (20 : Nat) < 100 from by decide) hf
  have f16 : (-1) * w_fi ws (n_v vs 5) 8 + 0 ≤ (-1) := f16
  obtain ⟨ta1, w1, le1, ⟨_, s1⟩, hf⟩ := fc_us (show ¬ (102 : Nat) < 100 from by decide) hf
  obtain ⟨f18, hf⟩ := fc_un (show (23 : Nat) < 100 from by decide) hf
  have f18 : 1 * v_iv (n_v vs 15) + ((-1) * v_iv (n_v vs 13) + 0) ≤ 0 := f18
  obtain ⟨f19, hf⟩ := fc_un (show (23 : Nat) < 100 from by decide) hf
  have f19 : (-1) * v_iv (n_v vs 15) + (1 * v_iv (n_v vs 13) + 0) ≤ 0 := f19
  obtain ⟨f20, hf⟩ := fc_un (show (23 : Nat) < 100 from by decide) hf
  have f20 : 1 * v_iv (n_v vs 3) + ((-1) * v_iv (n_v vs 15) + 0) ≤ (-1) := f20
  obtain ⟨f21, hf⟩ := fc_un (show (23 : Nat) < 100 from by decide) hf
  have f21 : (-1) * v_iv (n_v vs 9) + ((-1) * v_iv (n_v vs 15) + 0) ≤ (-2000) := f21
  obtain ⟨f22, hf⟩ := fc_un (show (23 : Nat) < 100 from by decide) hf
  have f22 : 1 * v_iv (n_v vs 3) + ((-1) * v_iv (n_v vs 13) + 0) ≤ (-1) := f22
  obtain ⟨f23, hf⟩ := fc_un (show (23 : Nat) < 100 from by decide) hf
  have f23 : (-1) * v_iv (n_v vs 9) + ((-1) * v_iv (n_v vs 13) + 0) ≤ (-2000) := f23
  obtain ⟨f24, hf⟩ := fc_un (show (23 : Nat) < 100 from by decide) hf
  have f24 : 1 * v_iv (n_v vs 8) + ((-1) * v_iv (n_v vs 7) + 0) ≤ 0 := f24
  obtain ⟨f25, hf⟩ := fc_un (show (23 : Nat) < 100 from by decide) hf
  have f25 : (-1) * v_iv (n_v vs 8) + 0 ≤ 0 := f25
  obtain ⟨ta2, w2, le2, ⟨_, s2⟩, hf⟩ := fc_us (show ¬ (102 : Nat) < 100 from by decide) hf
  obtain ⟨f27, hf⟩ := fc_un (show (23 : Nat) < 100 from by decide) hf
  have f27 : 1 * v_iv (n_v vs 15) + ((-1) * v_iv (n_v vs 13) + 0) ≤ 0 := f27
  obtain ⟨f28, hf⟩ := fc_un (show (23 : Nat) < 100 from by decide) hf
  have f28 : (-1) * v_iv (n_v vs 15) + (1 * v_iv (n_v vs 13) + 0) ≤ 0 := f28
  obtain ⟨f29, hf⟩ := fc_un (show (23 : Nat) < 100 from by decide) hf
  have f29 : 1 * v_iv (n_v vs 3) + ((-1) * v_iv (n_v vs 15) + 0) ≤ (-1) := f29
  obtain ⟨f30, hf⟩ := fc_un (show (23 : Nat) < 100 from by decide) hf
  have f30 : (-1) * v_iv (n_v vs 9) + ((-1) * v_iv (n_v vs 15) + 0) ≤ (-2000) := f30
  obtain ⟨f31, hf⟩ := fc_un (show (23 : Nat) < 100 from by decide) hf
  have f31 : 1 * v_iv (n_v vs 3) + ((-1) * v_iv (n_v vs 13) + 0) ≤ (-1) := f31
  obtain ⟨f32, hf⟩ := fc_un (show (23 : Nat) < 100 from by decide) hf
  have f32 : (-1) * v_iv (n_v vs 9) + ((-1) * v_iv (n_v vs 13) + 0) ≤ (-2000) := f32
  obtain ⟨f33, hf⟩ := fc_un (show (23 : Nat) < 100 from by decide) hf
  have f33 : 1 * v_iv (n_v vs 8) + ((-1) * v_iv (n_v vs 7) + 0) ≤ 0 := f33
  obtain ⟨f34, hf⟩ := fc_un (show (23 : Nat) < 100 from by decide) hf
  have f34 : (-1) * v_iv (n_v vs 8) + 0 ≤ 0 := f34
  obtain ⟨ta3, w3, le3, ⟨_, s3⟩, hf⟩ := fc_us (show ¬ (102 : Nat) < 100 from by decide) hf
  obtain ⟨f36, hf⟩ := fc_un (show (23 : Nat) < 100 from by decide) hf
  have f36 : 1 * v_iv (n_v vs 15) + ((-1) * v_iv (n_v vs 13) + 0) ≤ 0 := f36
  obtain ⟨f37, hf⟩ := fc_un (show (23 : Nat) < 100 from by decide) hf
  have f37 : (-1) * v_iv (n_v vs 15) + (1 * v_iv (n_v vs 13) + 0) ≤ 0 := f37
  obtain ⟨f38, hf⟩ := fc_un (show (23 : Nat) < 100 from by decide) hf
  have f38 : 1 * v_iv (n_v vs 3) + ((-1) * v_iv (n_v vs 15) + 0) ≤ (-1) := f38
  obtain ⟨f39, hf⟩ := fc_un (show (23 : Nat) < 100 from by decide) hf
  have f39 : (-1) * v_iv (n_v vs 9) + ((-1) * v_iv (n_v vs 15) + 0) ≤ (-2000) := f39
  obtain ⟨f40, hf⟩ := fc_un (show (23 : Nat) < 100 from by decide) hf
  have f40 : 1 * v_iv (n_v vs 3) + ((-1) * v_iv (n_v vs 13) + 0) ≤ (-1) := f40
  obtain ⟨f41, hf⟩ := fc_un (show (23 : Nat) < 100 from by decide) hf
  have f41 : (-1) * v_iv (n_v vs 9) + ((-1) * v_iv (n_v vs 13) + 0) ≤ (-2000) := f41
  obtain ⟨f42, hf⟩ := fc_un (show (23 : Nat) < 100 from by decide) hf
  have f42 : 1 * v_iv (n_v vs 8) + ((-1) * v_iv (n_v vs 7) + 0) ≤ 0 := f42
  obtain ⟨f43, hf⟩ := fc_un (show (23 : Nat) < 100 from by decide) hf
  have f43 : (-1) * v_iv (n_v vs 8) + 0 ≤ 0 := f43
  obtain ⟨ta4, w4, le4, ⟨_, s4⟩, hf⟩ := fc_us (show ¬ (102 : Nat) < 100 from by decide) hf
  obtain ⟨f45, hf⟩ := fc_un (show (23 : Nat) < 100 from by decide) hf
  have f45 : 1 * v_iv (n_v vs 3) + ((-1) * v_iv (n_v vs 13) + 0) ≤ (-1) := f45
  obtain ⟨f46, hf⟩ := fc_un (show (23 : Nat) < 100 from by decide) hf
  have f46 : (-1) * v_iv (n_v vs 9) + ((-1) * v_iv (n_v vs 13) + 0) ≤ (-2000) := f46
  obtain ⟨f47, hf⟩ := fc_un (show (8 : Nat) < 100 from by decide) hf
  have f47 : v_iv (n_v vs 8) ≤ 0 := f47
  obtain ⟨f48, hf⟩ := fc_un (show (23 : Nat) < 100 from by decide) hf
  have f48 : 1 * v_iv (n_v vs 8) + ((-1) * v_iv (n_v vs 7) + 0) ≤ 0 := f48
  obtain ⟨f49, hf⟩ := fc_un (show (23 : Nat) < 100 from by decide) hf
  have f49 : (-1) * v_iv (n_v vs 8) + 0 ≤ 0 := f49
  obtain ⟨ta5, w5, le5, ⟨_, s5⟩, hf⟩ := fc_us (show ¬ (102 : Nat) < 100 from by decide) hf
  obtain ⟨f51, hf⟩ := fc_un (show (23 : Nat) < 100 from by decide) hf
  have f51 : 1 * v_iv (n_v vs 8) + ((-1) * v_iv (n_v vs 7) + 0) ≤ 0 := f51
  obtain ⟨f52, hf⟩ := fc_un (show (23 : Nat) < 100 from by decide) hf
  have f52 : (-1) * v_iv (n_v vs 8) + 0 ≤ 0 := f52
  have q5 : n_v vs 5 = n_v vs 0 := f11.symm
  have q7 : n_v vs 7 = n_v vs 2 := f12.symm
  rw [q5] at f0
  rw [q5] at f2
  rw [q7] at f9
  rw [q5] at f13
  rw [q5] at f14
  rw [q5] at f15
  rw [q5] at f16
  rw [q7] at f24
  rw [q7] at f33
  rw [q7] at f42
  rw [q7] at f48
  rw [q7] at f51
  have g0 : v_iv (n_v vs 22) = w_fi ws (n_v vs 0) 14 := congrArg v_iv f0
  have g2 : v_iv (n_v vs 26) = w_fi ws (n_v vs 0) 8 := congrArg v_iv f2
  have kz_0_8 : 0 ≤ w_fi ws (n_v vs 0) 8 ∧ w_fi ws (n_v vs 0) 8 ≤ 5 := tv_rng (th_fd hD hth r0 (g := GG_150) rfl (k := 8) (t := (0, 0, 5, [])) rfl rfl)
  have kz_0_11 : 0 ≤ w_fi ws (n_v vs 0) 11 ∧ w_fi ws (n_v vs 0) 11 ≤ 2000 := tv_rng (th_fd hD hth r0 (g := GG_150) rfl (k := 11) (t := (0, 0, 2000, [])) rfl rfl)
  have kz_0_12 : 0 ≤ w_fi ws (n_v vs 0) 12 ∧ w_fi ws (n_v vs 0) 12 ≤ 4 := tv_rng (th_fd hD hth r0 (g := GG_150) rfl (k := 12) (t := (0, 0, 4, [])) rfl rfl)
  have kz_0_14 : (-2147483648) ≤ w_fi ws (n_v vs 0) 14 ∧ w_fi ws (n_v vs 0) 14 ≤ 2147483647 := tv_rng (th_fd hD hth r0 (g := GG_150) rfl (k := 14) (t := (0, -2147483648, 2147483647, [])) rfl rfl)
  have kz_0_15 : 0 ≤ w_fi ws (n_v vs 0) 15 ∧ w_fi ws (n_v vs 0) 15 ≤ 2000 := tv_rng (th_fd hD hth r0 (g := GG_150) rfl (k := 15) (t := (0, 0, 2000, [])) rfl rfl)
  have nf0 : fc_1 (23, [22, 7], [0, 1, -1]) ws (vs) := by
    refine ⟨fun n hn => ?_, ?_⟩
    · have hn : n ∈ [22, 7] := hn
      rw [hl]
      simp only [List.mem_cons, List.not_mem_nil, or_false] at hn
      show n < 27; omega
    · show 1 * v_iv (n_v vs 22) + ((-1) * v_iv (n_v vs 7) + 0) ≤ 0
      rw [q7]
      omega
  have nf1 : fc_1 (23, [22], [0, -1]) ws (vs) := by
    refine ⟨fun n hn => ?_, ?_⟩
    · have hn : n ∈ [22] := hn
      rw [hl]
      simp only [List.mem_cons, List.not_mem_nil, or_false] at hn
      show n < 27; omega
    · show (-1) * v_iv (n_v vs 22) + 0 ≤ 0
      omega
  refine ⟨(fun _ h => (by cases h)), [], trivial, ?_, (fun _ h => (by cases h))⟩
  rw [List.append_nil]
  exact List.forall_mem_cons.mpr ⟨⟨show (23 : Nat) < 100 from by decide, nf0⟩, List.forall_mem_cons.mpr ⟨⟨show (23 : Nat) < 100 from by decide, nf1⟩, (fun _ h => (by cases h))⟩⟩
def o_Mo_of_at_s5003_23 : or_T := (139, 28, [(0, (2, 0, 0, [150])), (2, (0, 9, 9, [])), (3, (0, 0, 2000, [])), (4, (0, -1, 48, [])), (5, (2, 0, 0, [150])), (7, (0, 9, 9, [])), (8, (0, -2147483648, 0, [])), (9, (0, 0, 2000, [])), (13, (0, 0, 2000, [])), (15, (0, 0, 2000, [])), (22, (0, 10, 2147483647, [])), (27, (0, 0, 2000, []))], [(23, [3, 27], [-1, 1, -1]), (23, [9, 27], [-2001, -1, -1]), (23, [22, 7], [0, 1, -1]), (23, [22], [0, -1]), (23, [15, 13], [0, 1, -1]), (23, [15, 13], [0, -1, 1]), (23, [3, 15], [-1, 1, -1]), (23, [9, 15], [-2000, -1, -1]), (23, [3, 13], [-1, 1, -1]), (23, [9, 13], [-2000, -1, -1]), (23, [8, 7], [0, 1, -1]), (23, [8], [0, -1]), (23, [4], [0, -1]), (24, [0, 5], []), (24, [2, 7], []), (20, [5], [30, -1, -1, 1, 8]), (20, [5, 5], [30, 0, 1, 1, 15, -1, 1, 11]), (20, [5], [50, 3, 0, 12, 11, 15, 2, 21, 4, 7, 1, 3, 2, 0, 12, 0, 1, 0, 3, 2, 0, 11, 4, 3, 2, 0, 15, 0, 8, 3, 7, 1, 3, 2, 0, 12, 0, 0, 0, 7, 4, 3, 2, 0, 15, 0, 1, 2, 0, 11]), (20, [27, 5], [30, 0, 1, 0, 0, -1, 1, 15]), (102, [27], [0, 13011, 13012, 13013, 13014, 13015]), (23, [3, 27], [-1, 1, -1]), (23, [9, 27], [-2001, -1, -1]), (23, [22, 7], [0, 1, -1]), (23, [22], [0, -1]), (23, [15, 13], [0, 1, -1]), (23, [15, 13], [0, -1, 1]), (23, [3, 15], [-1, 1, -1]), (23, [9, 15], [-2000, -1, -1]), (23, [3, 13], [-1, 1, -1]), (23, [9, 13], [-2000, -1, -1]), (23, [8, 7], [0, 1, -1]), (23, [8], [0, -1]), (23, [4], [0, -1]), (102, [25], [0, 13008, 13009]), (23, [15, 13], [0, 1, -1]), (23, [15, 13], [0, -1, 1]), (23, [3, 15], [-1, 1, -1]), (23, [9, 15], [-2000, -1, -1]), (23, [3, 13], [-1, 1, -1]), (23, [9, 13], [-2000, -1, -1]), (23, [8, 7], [0, 1, -1]), (23, [8], [0, -1]), (23, [4], [0, -1]), (102, [20], [0, 13008, 13009]), (23, [15, 13], [0, 1, -1]), (23, [15, 13], [0, -1, 1]), (23, [3, 15], [-1, 1, -1]), (23, [9, 15], [-2000, -1, -1]), (23, [3, 13], [-1, 1, -1]), (23, [9, 13], [-2000, -1, -1]), (23, [8, 7], [0, 1, -1]), (23, [8], [0, -1]), (23, [4], [0, -1]), (102, [15], [0, 13008, 13009, 13011, 13012, 13013, 13014, 13015]), (23, [15, 13], [0, 1, -1]), (23, [15, 13], [0, -1, 1]), (23, [3, 15], [-1, 1, -1]), (23, [9, 15], [-2000, -1, -1]), (23, [3, 13], [-1, 1, -1]), (23, [9, 13], [-2000, -1, -1]), (23, [8, 7], [0, 1, -1]), (23, [8], [0, -1]), (23, [4], [0, -1]), (102, [13], [0, 13011, 13012, 13013, 13014, 13015]), (23, [3, 13], [-1, 1, -1]), (23, [9, 13], [-2000, -1, -1]), (8, [8], [5]), (23, [8, 7], [0, 1, -1]), (23, [8], [0, -1]), (23, [4], [0, -1]), (102, [11], [0]), (23, [8, 7], [0, 1, -1]), (23, [8], [0, -1]), (23, [4], [0, -1])], [], [(0, 0, 2000, [])], [(20, [5, 5], [30, 0, 1, 1, 15, -1, 1, 11]), (20, [5], [50, 3, 0, 12, 11, 15, 2, 21, 4, 7, 1, 3, 2, 0, 12, 0, 1, 0, 3, 2, 0, 11, 4, 3, 2, 0, 15, 0, 8, 3, 7, 1, 3, 2, 0, 12, 0, 0, 0, 7, 4, 3, 2, 0, 15, 0, 1, 2, 0, 11]), (20, [3, 5], [30, -1, 1, 0, 0, -1, 1, 11]), (23, [22, 7], [0, 1, -1]), (23, [22], [0, -1]), (23, [4], [0, -1]), (20, [28, 5], [30, -2001, -1, 0, 0, -1, 1, 11]), (24, [0, 5], []), (24, [2, 7], [])], [(28, 9, 0, 0)], [(22, 7, 1, 4294967296), (2, 3, -4294967296, 9), (2, 4, -4294967296, 10), (2, 7, -4294967296, 0), (2, 8, -4294967296, 2147483657), (3, 2, -4294967296, 1991), (3, 4, -4294967296, 2001), (3, 7, -4294967296, 1991), (3, 8, -4294967296, 2147485648), (4, 2, -4294967296, 39), (4, 3, -4294967296, 48), (4, 7, -4294967296, 39), (4, 8, -4294967296, 2147483696), (7, 2, -4294967296, 0), (7, 3, -4294967296, 9), (7, 4, -4294967296, 10), (7, 8, -4294967296, 2147483657), (8, 2, -4294967296, 2147483638), (8, 3, -4294967296, 2147483647), (8, 4, -4294967296, 2147483648), (8, 7, -4294967296, 2147483638)])
theorem oo_Mo_of_at_s5003_23 {kA : Nat → ClassId} : or_ok kA GG o_Mo_of_at_s5003_23 := by
  intro A ta ws vs hD hth hl hk hds hf
  have hl : vs.length = 28 := hl
  have hk : ∀ q ∈ ([(0, (2, 0, 0, [150])), (2, (0, 9, 9, [])), (3, (0, 0, 2000, [])), (4, (0, -1, 48, [])), (5, (2, 0, 0, [150])), (7, (0, 9, 9, [])), (8, (0, -2147483648, 0, [])), (9, (0, 0, 2000, [])), (13, (0, 0, 2000, [])), (15, (0, 0, 2000, [])), (22, (0, 10, 2147483647, [])), (27, (0, 0, 2000, []))] : List (Nat × tv_T)), tv_ok ta q.2 (n_v vs q.1) := hk
  obtain ⟨t0, hk⟩ := List.forall_mem_cons.mp hk
  have t0 : tv_ok ta (2, 0, 0, [150]) (n_v vs 0) := t0
  have r0 : ta (v_ad (n_v vs 0)) = some 150 := tv_rg t0
  obtain ⟨t2, hk⟩ := List.forall_mem_cons.mp hk
  have t2 : tv_ok ta (0, 9, 9, []) (n_v vs 2) := t2
  have k2 : 9 ≤ v_iv (n_v vs 2) ∧ v_iv (n_v vs 2) ≤ 9 := tv_rng t2
  obtain ⟨t3, hk⟩ := List.forall_mem_cons.mp hk
  have t3 : tv_ok ta (0, 0, 2000, []) (n_v vs 3) := t3
  have k3 : 0 ≤ v_iv (n_v vs 3) ∧ v_iv (n_v vs 3) ≤ 2000 := tv_rng t3
  obtain ⟨t4, hk⟩ := List.forall_mem_cons.mp hk
  have t4 : tv_ok ta (0, -1, 48, []) (n_v vs 4) := t4
  have k4 : (-1) ≤ v_iv (n_v vs 4) ∧ v_iv (n_v vs 4) ≤ 48 := tv_rng t4
  obtain ⟨t5, hk⟩ := List.forall_mem_cons.mp hk
  have t5 : tv_ok ta (2, 0, 0, [150]) (n_v vs 5) := t5
  have r5 : ta (v_ad (n_v vs 5)) = some 150 := tv_rg t5
  obtain ⟨t7, hk⟩ := List.forall_mem_cons.mp hk
  have t7 : tv_ok ta (0, 9, 9, []) (n_v vs 7) := t7
  have k7 : 9 ≤ v_iv (n_v vs 7) ∧ v_iv (n_v vs 7) ≤ 9 := tv_rng t7
  obtain ⟨t8, hk⟩ := List.forall_mem_cons.mp hk
  have t8 : tv_ok ta (0, -2147483648, 0, []) (n_v vs 8) := t8
  have k8 : (-2147483648) ≤ v_iv (n_v vs 8) ∧ v_iv (n_v vs 8) ≤ 0 := tv_rng t8
  obtain ⟨t9, hk⟩ := List.forall_mem_cons.mp hk
  have t9 : tv_ok ta (0, 0, 2000, []) (n_v vs 9) := t9
  have k9 : 0 ≤ v_iv (n_v vs 9) ∧ v_iv (n_v vs 9) ≤ 2000 := tv_rng t9
  obtain ⟨t13, hk⟩ := List.forall_mem_cons.mp hk
  have t13 : tv_ok ta (0, 0, 2000, []) (n_v vs 13) := t13
  have k13 : 0 ≤ v_iv (n_v vs 13) ∧ v_iv (n_v vs 13) ≤ 2000 := tv_rng t13
  obtain ⟨t15, hk⟩ := List.forall_mem_cons.mp hk
  have t15 : tv_ok ta (0, 0, 2000, []) (n_v vs 15) := t15
  have k15 : 0 ≤ v_iv (n_v vs 15) ∧ v_iv (n_v vs 15) ≤ 2000 := tv_rng t15
  obtain ⟨t22, hk⟩ := List.forall_mem_cons.mp hk
  have t22 : tv_ok ta (0, 10, 2147483647, []) (n_v vs 22) := t22
  have k22 : 10 ≤ v_iv (n_v vs 22) ∧ v_iv (n_v vs 22) ≤ 2147483647 := tv_rng t22
  obtain ⟨t27, hk⟩ := List.forall_mem_cons.mp hk
  have t27 : tv_ok ta (0, 0, 2000, []) (n_v vs 27) := t27
  have k27 : 0 ≤ v_iv (n_v vs 27) ∧ v_iv (n_v vs 27) ≤ 2000 := tv_rng t27
  have hds : ∀ q ∈ ([(22, 7, 1, 4294967296), (2, 3, -4294967296, 9), (2, 4, -4294967296, 10), (2, 7, -4294967296, 0), (2, 8, -4294967296, 2147483657), (3, 2, -4294967296, 1991), (3, 4, -4294967296, 2001), (3, 7, -4294967296, 1991), (3, 8, -4294967296, 2147485648), (4, 2, -4294967296, 39), (4, 3, -4294967296, 48), (4, 7, -4294967296, 39), (4, 8, -4294967296, 2147483696), (7, 2, -4294967296, 0), (7, 3, -4294967296, 9), (7, 4, -4294967296, 10), (7, 8, -4294967296, 2147483657), (8, 2, -4294967296, 2147483638), (8, 3, -4294967296, 2147483647), (8, 4, -4294967296, 2147483648), (8, 7, -4294967296, 2147483638)] : List of_T), n_iv vs q.2.1 + q.2.2.1 ≤ n_iv vs q.1 ∧ n_iv vs q.1 ≤ n_iv vs q.2.1 + q.2.2.2 := hds
  obtain ⟨d0, hds⟩ := List.forall_mem_cons.mp hds
  have d0 : v_iv (n_v vs 7) + 1 ≤ v_iv (n_v vs 22) ∧ v_iv (n_v vs 22) ≤ v_iv (n_v vs 7) + 4294967296 := d0
  obtain ⟨d1, hds⟩ := List.forall_mem_cons.mp hds
  have d1 : v_iv (n_v vs 3) + (-4294967296) ≤ v_iv (n_v vs 2) ∧ v_iv (n_v vs 2) ≤ v_iv (n_v vs 3) + 9 := d1
  obtain ⟨d2, hds⟩ := List.forall_mem_cons.mp hds
  have d2 : v_iv (n_v vs 4) + (-4294967296) ≤ v_iv (n_v vs 2) ∧ v_iv (n_v vs 2) ≤ v_iv (n_v vs 4) + 10 := d2
  obtain ⟨d3, hds⟩ := List.forall_mem_cons.mp hds
  have d3 : v_iv (n_v vs 7) + (-4294967296) ≤ v_iv (n_v vs 2) ∧ v_iv (n_v vs 2) ≤ v_iv (n_v vs 7) + 0 := d3
  obtain ⟨d4, hds⟩ := List.forall_mem_cons.mp hds
  have d4 : v_iv (n_v vs 8) + (-4294967296) ≤ v_iv (n_v vs 2) ∧ v_iv (n_v vs 2) ≤ v_iv (n_v vs 8) + 2147483657 := d4
  obtain ⟨d5, hds⟩ := List.forall_mem_cons.mp hds
  have d5 : v_iv (n_v vs 2) + (-4294967296) ≤ v_iv (n_v vs 3) ∧ v_iv (n_v vs 3) ≤ v_iv (n_v vs 2) + 1991 := d5
  obtain ⟨d6, hds⟩ := List.forall_mem_cons.mp hds
  have d6 : v_iv (n_v vs 4) + (-4294967296) ≤ v_iv (n_v vs 3) ∧ v_iv (n_v vs 3) ≤ v_iv (n_v vs 4) + 2001 := d6
  obtain ⟨d7, hds⟩ := List.forall_mem_cons.mp hds
  have d7 : v_iv (n_v vs 7) + (-4294967296) ≤ v_iv (n_v vs 3) ∧ v_iv (n_v vs 3) ≤ v_iv (n_v vs 7) + 1991 := d7
  obtain ⟨d8, hds⟩ := List.forall_mem_cons.mp hds
  have d8 : v_iv (n_v vs 8) + (-4294967296) ≤ v_iv (n_v vs 3) ∧ v_iv (n_v vs 3) ≤ v_iv (n_v vs 8) + 2147485648 := d8
  obtain ⟨d9, hds⟩ := List.forall_mem_cons.mp hds
  have d9 : v_iv (n_v vs 2) + (-4294967296) ≤ v_iv (n_v vs 4) ∧ v_iv (n_v vs 4) ≤ v_iv (n_v vs 2) + 39 := d9
  obtain ⟨d10, hds⟩ := List.forall_mem_cons.mp hds
  have d10 : v_iv (n_v vs 3) + (-4294967296) ≤ v_iv (n_v vs 4) ∧ v_iv (n_v vs 4) ≤ v_iv (n_v vs 3) + 48 := d10
  obtain ⟨d11, hds⟩ := List.forall_mem_cons.mp hds
  have d11 : v_iv (n_v vs 7) + (-4294967296) ≤ v_iv (n_v vs 4) ∧ v_iv (n_v vs 4) ≤ v_iv (n_v vs 7) + 39 := d11
  obtain ⟨d12, hds⟩ := List.forall_mem_cons.mp hds
  have d12 : v_iv (n_v vs 8) + (-4294967296) ≤ v_iv (n_v vs 4) ∧ v_iv (n_v vs 4) ≤ v_iv (n_v vs 8) + 2147483696 := d12
  obtain ⟨d13, hds⟩ := List.forall_mem_cons.mp hds
  have d13 : v_iv (n_v vs 2) + (-4294967296) ≤ v_iv (n_v vs 7) ∧ v_iv (n_v vs 7) ≤ v_iv (n_v vs 2) + 0 := d13
  obtain ⟨d14, hds⟩ := List.forall_mem_cons.mp hds
  have d14 : v_iv (n_v vs 3) + (-4294967296) ≤ v_iv (n_v vs 7) ∧ v_iv (n_v vs 7) ≤ v_iv (n_v vs 3) + 9 := d14
  obtain ⟨d15, hds⟩ := List.forall_mem_cons.mp hds
  have d15 : v_iv (n_v vs 4) + (-4294967296) ≤ v_iv (n_v vs 7) ∧ v_iv (n_v vs 7) ≤ v_iv (n_v vs 4) + 10 := d15
  obtain ⟨d16, hds⟩ := List.forall_mem_cons.mp hds
  have d16 : v_iv (n_v vs 8) + (-4294967296) ≤ v_iv (n_v vs 7) ∧ v_iv (n_v vs 7) ≤ v_iv (n_v vs 8) + 2147483657 := d16
  obtain ⟨d17, hds⟩ := List.forall_mem_cons.mp hds
  have d17 : v_iv (n_v vs 2) + (-4294967296) ≤ v_iv (n_v vs 8) ∧ v_iv (n_v vs 8) ≤ v_iv (n_v vs 2) + 2147483638 := d17
  obtain ⟨d18, hds⟩ := List.forall_mem_cons.mp hds
  have d18 : v_iv (n_v vs 3) + (-4294967296) ≤ v_iv (n_v vs 8) ∧ v_iv (n_v vs 8) ≤ v_iv (n_v vs 3) + 2147483647 := d18
  obtain ⟨d19, hds⟩ := List.forall_mem_cons.mp hds
  have d19 : v_iv (n_v vs 4) + (-4294967296) ≤ v_iv (n_v vs 8) ∧ v_iv (n_v vs 8) ≤ v_iv (n_v vs 4) + 2147483648 := d19
  obtain ⟨d20, hds⟩ := List.forall_mem_cons.mp hds
  have d20 : v_iv (n_v vs 7) + (-4294967296) ≤ v_iv (n_v vs 8) ∧ v_iv (n_v vs 8) ≤ v_iv (n_v vs 7) + 2147483638 := d20
  have hf : fc_ok [(23, [3, 27], [-1, 1, -1]), (23, [9, 27], [-2001, -1, -1]), (23, [22, 7], [0, 1, -1]), (23, [22], [0, -1]), (23, [15, 13], [0, 1, -1]), (23, [15, 13], [0, -1, 1]), (23, [3, 15], [-1, 1, -1]), (23, [9, 15], [-2000, -1, -1]), (23, [3, 13], [-1, 1, -1]), (23, [9, 13], [-2000, -1, -1]), (23, [8, 7], [0, 1, -1]), (23, [8], [0, -1]), (23, [4], [0, -1]), (24, [0, 5], []), (24, [2, 7], []), (20, [5], [30, -1, -1, 1, 8]), (20, [5, 5], [30, 0, 1, 1, 15, -1, 1, 11]), (20, [5], [50, 3, 0, 12, 11, 15, 2, 21, 4, 7, 1, 3, 2, 0, 12, 0, 1, 0, 3, 2, 0, 11, 4, 3, 2, 0, 15, 0, 8, 3, 7, 1, 3, 2, 0, 12, 0, 0, 0, 7, 4, 3, 2, 0, 15, 0, 1, 2, 0, 11]), (20, [27, 5], [30, 0, 1, 0, 0, -1, 1, 15]), (102, [27], [0, 13011, 13012, 13013, 13014, 13015]), (23, [3, 27], [-1, 1, -1]), (23, [9, 27], [-2001, -1, -1]), (23, [22, 7], [0, 1, -1]), (23, [22], [0, -1]), (23, [15, 13], [0, 1, -1]), (23, [15, 13], [0, -1, 1]), (23, [3, 15], [-1, 1, -1]), (23, [9, 15], [-2000, -1, -1]), (23, [3, 13], [-1, 1, -1]), (23, [9, 13], [-2000, -1, -1]), (23, [8, 7], [0, 1, -1]), (23, [8], [0, -1]), (23, [4], [0, -1]), (102, [25], [0, 13008, 13009]), (23, [15, 13], [0, 1, -1]), (23, [15, 13], [0, -1, 1]), (23, [3, 15], [-1, 1, -1]), (23, [9, 15], [-2000, -1, -1]), (23, [3, 13], [-1, 1, -1]), (23, [9, 13], [-2000, -1, -1]), (23, [8, 7], [0, 1, -1]), (23, [8], [0, -1]), (23, [4], [0, -1]), (102, [20], [0, 13008, 13009]), (23, [15, 13], [0, 1, -1]), (23, [15, 13], [0, -1, 1]), (23, [3, 15], [-1, 1, -1]), (23, [9, 15], [-2000, -1, -1]), (23, [3, 13], [-1, 1, -1]), (23, [9, 13], [-2000, -1, -1]), (23, [8, 7], [0, 1, -1]), (23, [8], [0, -1]), (23, [4], [0, -1]), (102, [15], [0, 13008, 13009, 13011, 13012, 13013, 13014, 13015]), (23, [15, 13], [0, 1, -1]), (23, [15, 13], [0, -1, 1]), (23, [3, 15], [-1, 1, -1]), (23, [9, 15], [-2000, -1, -1]), (23, [3, 13], [-1, 1, -1]), (23, [9, 13], [-2000, -1, -1]), (23, [8, 7], [0, 1, -1]), (23, [8], [0, -1]), (23, [4], [0, -1]), (102, [13], [0, 13011, 13012, 13013, 13014, 13015]), (23, [3, 13], [-1, 1, -1]), (23, [9, 13], [-2000, -1, -1]), (8, [8], [5]), (23, [8, 7], [0, 1, -1]), (23, [8], [0, -1]), (23, [4], [0, -1]), (102, [11], [0]), (23, [8, 7], [0, 1, -1]), (23, [8], [0, -1]), (23, [4], [0, -1])] ta ws vs := hf
  obtain ⟨f0, hf⟩ := fc_un (show (23 : Nat) < 100 from by decide) hf
  have f0 : 1 * v_iv (n_v vs 3) + ((-1) * v_iv (n_v vs 27) + 0) ≤ (-1) := f0
  obtain ⟨f1, hf⟩ := fc_un (show (23 : Nat) < 100 from by decide) hf
  have f1 : (-1) * v_iv (n_v vs 9) + ((-1) * v_iv (n_v vs 27) + 0) ≤ (-2001) := f1
  obtain ⟨f2, hf⟩ := fc_un (show (23 : Nat) < 100 from by decide) hf
  have f2 : 1 * v_iv (n_v vs 22) + ((-1) * v_iv (n_v vs 7) + 0) ≤ 0 := f2
  obtain ⟨f3, hf⟩ := fc_un (show (23 : Nat) < 100 from by decide) hf
  have f3 : (-1) * v_iv (n_v vs 22) + 0 ≤ 0 := f3
  obtain ⟨f4, hf⟩ := fc_un (show (23 : Nat) < 100 from by decide) hf
  have f4 : 1 * v_iv (n_v vs 15) + ((-1) * v_iv (n_v vs 13) + 0) ≤ 0 := f4
  obtain ⟨f5, hf⟩ := fc_un (show (23 : Nat) < 100 from by decide) hf
  have f5 : (-1) * v_iv (n_v vs 15) + (1 * v_iv (n_v vs 13) + 0) ≤ 0 := f5
  obtain ⟨f6, hf⟩ := fc_un (show (23 : Nat) < 100 from by decide) hf
  have f6 : 1 * v_iv (n_v vs 3) + ((-1) * v_iv (n_v vs 15) + 0) ≤ (-1) := f6
  obtain ⟨f7, hf⟩ := fc_un (show (23 : Nat) < 100 from by decide) hf
  have f7 : (-1) * v_iv (n_v vs 9) + ((-1) * v_iv (n_v vs 15) + 0) ≤ (-2000) := f7
  obtain ⟨f8, hf⟩ := fc_un (show (23 : Nat) < 100 from by decide) hf
  have f8 : 1 * v_iv (n_v vs 3) + ((-1) * v_iv (n_v vs 13) + 0) ≤ (-1) := f8
  obtain ⟨f9, hf⟩ := fc_un (show (23 : Nat) < 100 from by decide) hf
  have f9 : (-1) * v_iv (n_v vs 9) + ((-1) * v_iv (n_v vs 13) + 0) ≤ (-2000) := f9
  obtain ⟨f10, hf⟩ := fc_un (show (23 : Nat) < 100 from by decide) hf
  have f10 : 1 * v_iv (n_v vs 8) + ((-1) * v_iv (n_v vs 7) + 0) ≤ 0 := f10
  obtain ⟨f11, hf⟩ := fc_un (show (23 : Nat) < 100 from by decide) hf
  have f11 : (-1) * v_iv (n_v vs 8) + 0 ≤ 0 := f11
  obtain ⟨f12, hf⟩ := fc_un (show (23 : Nat) < 100 from by decide) hf
  have f12 : (-1) * v_iv (n_v vs 4) + 0 ≤ 0 := f12
  obtain ⟨f13, hf⟩ := fc_un (show (24 : Nat) < 100 from by decide) hf
  have f13 : n_v vs 0 = n_v vs 5 := f13
  obtain ⟨f14, hf⟩ := fc_un (show (24 : Nat) < 100 from by decide) hf
  have f14 : n_v vs 2 = n_v vs 7 := f14
  obtain ⟨f15, hf⟩ := fc_un (show (20 : Nat) < 100 from by decide) hf
  have f15 : (-1) * w_fi ws (n_v vs 5) 8 + 0 ≤ (-1) := f15
  obtain ⟨f16, hf⟩ := fc_un (show (20 : Nat) < 100 from by decide) hf
  have f16 : 1 * w_fi ws (n_v vs 5) 15 + ((-1) * w_fi ws (n_v vs 5) 11 + 0) ≤ 0 := f16
  obtain ⟨f17, hf⟩ := fc_un (show (20 : Nat) < 100 from by decide) hf
  have f17 : ((w_fi ws (n_v vs 5) 12 = 1) → (w_fi ws (n_v vs 5) 11 ≤ (w_fi ws (n_v vs 5) 15 + 8))) ∧ ((w_fi ws (n_v vs 5) 12 = 0) ∨ ((w_fi ws (n_v vs 5) 15 + 1) ≤ w_fi ws (n_v vs 5) 11)) := f17
  obtain ⟨f18, hf⟩ := fc_un (show (20 : Nat) < 100 from by decide) hf
  have f18 : 1 * v_iv (n_v vs 27) + ((-1) * w_fi ws (n_v vs 5) 15 + 0) ≤ 0 := f18
  obtain ⟨ta1, w1, le1, ⟨_, s1⟩, hf⟩ := fc_us (show ¬ (102 : Nat) < 100 from by decide) hf
  obtain ⟨f20, hf⟩ := fc_un (show (23 : Nat) < 100 from by decide) hf
  have f20 : 1 * v_iv (n_v vs 3) + ((-1) * v_iv (n_v vs 27) + 0) ≤ (-1) := f20
  obtain ⟨f21, hf⟩ := fc_un (show (23 : Nat) < 100 from by decide) hf
  have f21 : (-1) * v_iv (n_v vs 9) + ((-1) * v_iv (n_v vs 27) + 0) ≤ (-2001) := f21
  obtain ⟨f22, hf⟩ := fc_un (show (23 : Nat) < 100 from by decide) hf
  have f22 : 1 * v_iv (n_v vs 22) + ((-1) * v_iv (n_v vs 7) + 0) ≤ 0 := f22
  obtain ⟨f23, hf⟩ := fc_un (show (23 : Nat) < 100 from by decide) hf
  have f23 : (-1) * v_iv (n_v vs 22) + 0 ≤ 0 := f23
  obtain ⟨f24, hf⟩ := fc_un (show (23 : Nat) < 100 from by decide) hf
  have f24 : 1 * v_iv (n_v vs 15) + ((-1) * v_iv (n_v vs 13) + 0) ≤ 0 := f24
  obtain ⟨f25, hf⟩ := fc_un (show (23 : Nat) < 100 from by decide) hf
  have f25 : (-1) * v_iv (n_v vs 15) + (1 * v_iv (n_v vs 13) + 0) ≤ 0 := f25
  obtain ⟨f26, hf⟩ := fc_un (show (23 : Nat) < 100 from by decide) hf
  have f26 : 1 * v_iv (n_v vs 3) + ((-1) * v_iv (n_v vs 15) + 0) ≤ (-1) := f26
  obtain ⟨f27, hf⟩ := fc_un (show (23 : Nat) < 100 from by decide) hf
  have f27 : (-1) * v_iv (n_v vs 9) + ((-1) * v_iv (n_v vs 15) + 0) ≤ (-2000) := f27
  obtain ⟨f28, hf⟩ := fc_un (show (23 : Nat) < 100 from by decide) hf
  have f28 : 1 * v_iv (n_v vs 3) + ((-1) * v_iv (n_v vs 13) + 0) ≤ (-1) := f28
  obtain ⟨f29, hf⟩ := fc_un (show (23 : Nat) < 100 from by decide) hf
  have f29 : (-1) * v_iv (n_v vs 9) + ((-1) * v_iv (n_v vs 13) + 0) ≤ (-2000) := f29
  obtain ⟨f30, hf⟩ := fc_un (show (23 : Nat) < 100 from by decide) hf
  have f30 : 1 * v_iv (n_v vs 8) + ((-1) * v_iv (n_v vs 7) + 0) ≤ 0 := f30
  obtain ⟨f31, hf⟩ := fc_un (show (23 : Nat) < 100 from by decide) hf
  have f31 : (-1) * v_iv (n_v vs 8) + 0 ≤ 0 := f31
  obtain ⟨f32, hf⟩ := fc_un (show (23 : Nat) < 100 from by decide) hf
  have f32 : (-1) * v_iv (n_v vs 4) + 0 ≤ 0 := f32
  obtain ⟨ta2, w2, le2, ⟨_, s2⟩, hf⟩ := fc_us (show ¬ (102 : Nat) < 100 from by decide) hf
  obtain ⟨f34, hf⟩ := fc_un (show (23 : Nat) < 100 from by decide) hf
  have f34 : 1 * v_iv (n_v vs 15) + ((-1) * v_iv (n_v vs 13) + 0) ≤ 0 := f34
  obtain ⟨f35, hf⟩ := fc_un (show (23 : Nat) < 100 from by decide) hf
  have f35 : (-1) * v_iv (n_v vs 15) + (1 * v_iv (n_v vs 13) + 0) ≤ 0 := f35
  obtain ⟨f36, hf⟩ := fc_un (show (23 : Nat) < 100 from by decide) hf
  have f36 : 1 * v_iv (n_v vs 3) + ((-1) * v_iv (n_v vs 15) + 0) ≤ (-1) := f36
  obtain ⟨f37, hf⟩ := fc_un (show (23 : Nat) < 100 from by decide) hf
  have f37 : (-1) * v_iv (n_v vs 9) + ((-1) * v_iv (n_v vs 15) + 0) ≤ (-2000) := f37
  obtain ⟨f38, hf⟩ := fc_un (show (23 : Nat) < 100 from by decide) hf
  have f38 : 1 * v_iv (n_v vs 3) + ((-1) * v_iv (n_v vs 13) + 0) ≤ (-1) := f38
  obtain ⟨f39, hf⟩ := fc_un (show (23 : Nat) < 100 from by decide) hf
  have f39 : (-1) * v_iv (n_v vs 9) + ((-1) * v_iv (n_v vs 13) + 0) ≤ (-2000) := f39
  obtain ⟨f40, hf⟩ := fc_un (show (23 : Nat) < 100 from by decide) hf
  have f40 : 1 * v_iv (n_v vs 8) + ((-1) * v_iv (n_v vs 7) + 0) ≤ 0 := f40
  obtain ⟨f41, hf⟩ := fc_un (show (23 : Nat) < 100 from by decide) hf
  have f41 : (-1) * v_iv (n_v vs 8) + 0 ≤ 0 := f41
  obtain ⟨f42, hf⟩ := fc_un (show (23 : Nat) < 100 from by decide) hf
  have f42 : (-1) * v_iv (n_v vs 4) + 0 ≤ 0 := f42
  obtain ⟨ta3, w3, le3, ⟨_, s3⟩, hf⟩ := fc_us (show ¬ (102 : Nat) < 100 from by decide) hf
  obtain ⟨f44, hf⟩ := fc_un (show (23 : Nat) < 100 from by decide) hf
  have f44 : 1 * v_iv (n_v vs 15) + ((-1) * v_iv (n_v vs 13) + 0) ≤ 0 := f44
  obtain ⟨f45, hf⟩ := fc_un (show (23 : Nat) < 100 from by decide) hf
  have f45 : (-1) * v_iv (n_v vs 15) + (1 * v_iv (n_v vs 13) + 0) ≤ 0 := f45
  obtain ⟨f46, hf⟩ := fc_un (show (23 : Nat) < 100 from by decide) hf
  have f46 : 1 * v_iv (n_v vs 3) + ((-1) * v_iv (n_v vs 15) + 0) ≤ (-1) := f46
  obtain ⟨f47, hf⟩ := fc_un (show (23 : Nat) < 100 from by decide) hf
  have f47 : (-1) * v_iv (n_v vs 9) + ((-1) * v_iv (n_v vs 15) + 0) ≤ (-2000) := f47
  obtain ⟨f48, hf⟩ := fc_un (show (23 : Nat) < 100 from by decide) hf
  have f48 : 1 * v_iv (n_v vs 3) + ((-1) * v_iv (n_v vs 13) + 0) ≤ (-1) := f48
  obtain ⟨f49, hf⟩ := fc_un (show (23 : Nat) < 100 from by decide) hf
  have f49 : (-1) * v_iv (n_v vs 9) + ((-1) * v_iv (n_v vs 13) + 0) ≤ (-2000) := f49
  obtain ⟨f50, hf⟩ := fc_un (show (23 : Nat) < 100 from by decide) hf
  have f50 : 1 * v_iv (n_v vs 8) + ((-1) * v_iv (n_v vs 7) + 0) ≤ 0 := f50
  obtain ⟨f51, hf⟩ := fc_un (show (23 : Nat) < 100 from by decide) hf
  have f51 : (-1) * v_iv (n_v vs 8) + 0 ≤ 0 := f51
  obtain ⟨f52, hf⟩ := fc_un (show (23 : Nat) < 100 from by decide) hf
  have f52 : (-1) * v_iv (n_v vs 4) + 0 ≤ 0 := f52
  obtain ⟨ta4, w4, le4, ⟨_, s4⟩, hf⟩ := fc_us (show ¬ (102 : Nat) < 100 from by decide) hf
  obtain ⟨f54, hf⟩ := fc_un (show (23 : Nat) < 100 from by decide) hf
  have f54 : 1 * v_iv (n_v vs 15) + ((-1) * v_iv (n_v vs 13) + 0) ≤ 0 := f54
  obtain ⟨f55, hf⟩ := fc_un (show (23 : Nat) < 100 from by decide) hf
  have f55 : (-1) * v_iv (n_v vs 15) + (1 * v_iv (n_v vs 13) + 0) ≤ 0 := f55
  obtain ⟨f56, hf⟩ := fc_un (show (23 : Nat) < 100 from by decide) hf
  have f56 : 1 * v_iv (n_v vs 3) + ((-1) * v_iv (n_v vs 15) + 0) ≤ (-1) := f56
  obtain ⟨f57, hf⟩ := fc_un (show (23 : Nat) < 100 from by decide) hf
  have f57 : (-1) * v_iv (n_v vs 9) + ((-1) * v_iv (n_v vs 15) + 0) ≤ (-2000) := f57
  obtain ⟨f58, hf⟩ := fc_un (show (23 : Nat) < 100 from by decide) hf
  have f58 : 1 * v_iv (n_v vs 3) + ((-1) * v_iv (n_v vs 13) + 0) ≤ (-1) := f58
  obtain ⟨f59, hf⟩ := fc_un (show (23 : Nat) < 100 from by decide) hf
  have f59 : (-1) * v_iv (n_v vs 9) + ((-1) * v_iv (n_v vs 13) + 0) ≤ (-2000) := f59
  obtain ⟨f60, hf⟩ := fc_un (show (23 : Nat) < 100 from by decide) hf
  have f60 : 1 * v_iv (n_v vs 8) + ((-1) * v_iv (n_v vs 7) + 0) ≤ 0 := f60
  obtain ⟨f61, hf⟩ := fc_un (show (23 : Nat) < 100 from by decide) hf
  have f61 : (-1) * v_iv (n_v vs 8) + 0 ≤ 0 := f61
  obtain ⟨f62, hf⟩ := fc_un (show (23 : Nat) < 100 from by decide) hf
  have f62 : (-1) * v_iv (n_v vs 4) + 0 ≤ 0 := f62
  obtain ⟨ta5, w5, le5, ⟨_, s5⟩, hf⟩ := fc_us (show ¬ (102 : Nat) < 100 from by decide) hf
  obtain ⟨f64, hf⟩ := fc_un (show (23 : Nat) < 100 from by decide) hf
  have f64 : 1 * v_iv (n_v vs 3) + ((-1) * v_iv (n_v vs 13) + 0) ≤ (-1) := f64
  obtain ⟨f65, hf⟩ := fc_un (show (23 : Nat) < 100 from by decide) hf
  have f65 : (-1) * v_iv (n_v vs 9) + ((-1) * v_iv (n_v vs 13) + 0) ≤ (-2000) := f65
  obtain ⟨f66, hf⟩ := fc_un (show (8 : Nat) < 100 from by decide) hf
  have f66 : v_iv (n_v vs 8) ≤ 0 := f66
  obtain ⟨f67, hf⟩ := fc_un (show (23 : Nat) < 100 from by decide) hf
  have f67 : 1 * v_iv (n_v vs 8) + ((-1) * v_iv (n_v vs 7) + 0) ≤ 0 := f67
  obtain ⟨f68, hf⟩ := fc_un (show (23 : Nat) < 100 from by decide) hf
  have f68 : (-1) * v_iv (n_v vs 8) + 0 ≤ 0 := f68
  obtain ⟨f69, hf⟩ := fc_un (show (23 : Nat) < 100 from by decide) hf
  have f69 : (-1) * v_iv (n_v vs 4) + 0 ≤ 0 := f69
  obtain ⟨ta6, w6, le6, ⟨_, s6⟩, hf⟩ := fc_us (show ¬ (102 : Nat) < 100 from by decide) hf
  obtain ⟨f71, hf⟩ := fc_un (show (23 : Nat) < 100 from by decide) hf
  have f71 : 1 * v_iv (n_v vs 8) + ((-1) * v_iv (n_v vs 7) + 0) ≤ 0 := f71
  obtain ⟨f72, hf⟩ := fc_un (show (23 : Nat) < 100 from by decide) hf
  have f72 : (-1) * v_iv (n_v vs 8) + 0 ≤ 0 := f72
  obtain ⟨f73, hf⟩ := fc_un (show (23 : Nat) < 100 from by decide) hf
  have f73 : (-1) * v_iv (n_v vs 4) + 0 ≤ 0 := f73
  have q5 : n_v vs 5 = n_v vs 0 := f13.symm
  have q7 : n_v vs 7 = n_v vs 2 := f14.symm
  rw [q7] at f2
  rw [q7] at f10
  rw [q5] at f15
  rw [q5] at f16
  rw [q5] at f17
  rw [q5] at f18
  rw [q7] at f22
  rw [q7] at f30
  rw [q7] at f40
  rw [q7] at f50
  rw [q7] at f60
  rw [q7] at f67
  rw [q7] at f71
  have kz_0_8 : 0 ≤ w_fi ws (n_v vs 0) 8 ∧ w_fi ws (n_v vs 0) 8 ≤ 5 := tv_rng (th_fd hD hth r0 (g := GG_150) rfl (k := 8) (t := (0, 0, 5, [])) rfl rfl)
  have kz_0_11 : 0 ≤ w_fi ws (n_v vs 0) 11 ∧ w_fi ws (n_v vs 0) 11 ≤ 2000 := tv_rng (th_fd hD hth r0 (g := GG_150) rfl (k := 11) (t := (0, 0, 2000, [])) rfl rfl)
  have kz_0_12 : 0 ≤ w_fi ws (n_v vs 0) 12 ∧ w_fi ws (n_v vs 0) 12 ≤ 4 := tv_rng (th_fd hD hth r0 (g := GG_150) rfl (k := 12) (t := (0, 0, 4, [])) rfl rfl)
  have kz_0_15 : 0 ≤ w_fi ws (n_v vs 0) 15 ∧ w_fi ws (n_v vs 0) 15 ≤ 2000 := tv_rng (th_fd hD hth r0 (g := GG_150) rfl (k := 15) (t := (0, 0, 2000, [])) rfl rfl)
  obtain ⟨x, ex, hx⟩ := iv_ex (ta := ta) (lo := 0) (hi := 2000) (z := 0 + (1 * v_iv (n_v vs 9) + 0)) (by omega) (by omega) (by omega) (by omega)
  have ex2 : v_iv (Value.int x) = 0 + (1 * v_iv (n_v vs 9) + 0) := ex
  have ex3 : 0 ≤ v_iv (Value.int x) ∧ v_iv (Value.int x) ≤ 2000 := tv_rng hx
  have e_0 : n_v (vs ++ [Value.int x]) 0 = n_v vs 0 := n_v_old (by rw [hl]; decide)
  have e_2 : n_v (vs ++ [Value.int x]) 2 = n_v vs 2 := n_v_old (by rw [hl]; decide)
  have e_3 : n_v (vs ++ [Value.int x]) 3 = n_v vs 3 := n_v_old (by rw [hl]; decide)
  have e_4 : n_v (vs ++ [Value.int x]) 4 = n_v vs 4 := n_v_old (by rw [hl]; decide)
  have e_5 : n_v (vs ++ [Value.int x]) 5 = n_v vs 5 := n_v_old (by rw [hl]; decide)
  have e_7 : n_v (vs ++ [Value.int x]) 7 = n_v vs 7 := n_v_old (by rw [hl]; decide)
  have e_22 : n_v (vs ++ [Value.int x]) 22 = n_v vs 22 := n_v_old (by rw [hl]; decide)
  have e_28 : n_v (vs ++ [Value.int x]) 28 = Value.int x := n_v_new hl
  have nf0 : fc_1 (20, [5, 5], [30, 0, 1, 1, 15, -1, 1, 11]) ws (vs ++ [Value.int x]) := by
    refine ⟨fun n hn => ?_, ?_⟩
    · have hn : n ∈ [5, 5] := hn
      rw [List.length_append, hl]
      simp only [List.mem_cons, List.not_mem_nil, or_false] at hn
      show n < 28 + 1; omega
    · show 1 * w_fi ws (n_v (vs ++ [Value.int x]) 5) 15 + ((-1) * w_fi ws (n_v (vs ++ [Value.int x]) 5) 11 + 0) ≤ 0
      rw [e_5]
      rw [q5]
      omega
  have nf1 : fc_1 (20, [5], [50, 3, 0, 12, 11, 15, 2, 21, 4, 7, 1, 3, 2, 0, 12, 0, 1, 0, 3, 2, 0, 11, 4, 3, 2, 0, 15, 0, 8, 3, 7, 1, 3, 2, 0, 12, 0, 0, 0, 7, 4, 3, 2, 0, 15, 0, 1, 2, 0, 11]) ws (vs ++ [Value.int x]) := by
    refine ⟨fun n hn => ?_, ?_⟩
    · have hn : n ∈ [5] := hn
      rw [List.length_append, hl]
      simp only [List.mem_cons, List.not_mem_nil, or_false] at hn
      show n < 28 + 1; omega
    · show ((w_fi ws (n_v (vs ++ [Value.int x]) 5) 12 = 1) → (w_fi ws (n_v (vs ++ [Value.int x]) 5) 11 ≤ (w_fi ws (n_v (vs ++ [Value.int x]) 5) 15 + 8))) ∧ ((w_fi ws (n_v (vs ++ [Value.int x]) 5) 12 = 0) ∨ ((w_fi ws (n_v (vs ++ [Value.int x]) 5) 15 + 1) ≤ w_fi ws (n_v (vs ++ [Value.int x]) 5) 11))
      rw [e_5]
      rw [q5]
      first | omega | grind
  have nf2 : fc_1 (20, [3, 5], [30, -1, 1, 0, 0, -1, 1, 11]) ws (vs ++ [Value.int x]) := by
    refine ⟨fun n hn => ?_, ?_⟩
    · have hn : n ∈ [3, 5] := hn
      rw [List.length_append, hl]
      simp only [List.mem_cons, List.not_mem_nil, or_false] at hn
      show n < 28 + 1; omega
    · show 1 * v_iv (n_v (vs ++ [Value.int x]) 3) + ((-1) * w_fi ws (n_v (vs ++ [Value.int x]) 5) 11 + 0) ≤ (-1)
      rw [e_3]
      rw [e_5]
      rw [q5]
      omega
  have nf3 : fc_1 (23, [22, 7], [0, 1, -1]) ws (vs ++ [Value.int x]) := by
    refine ⟨fun n hn => ?_, ?_⟩
    · have hn : n ∈ [22, 7] := hn
      rw [List.length_append, hl]
      simp only [List.mem_cons, List.not_mem_nil, or_false] at hn
      show n < 28 + 1; omega
    · show 1 * v_iv (n_v (vs ++ [Value.int x]) 22) + ((-1) * v_iv (n_v (vs ++ [Value.int x]) 7) + 0) ≤ 0
      rw [e_7]
      rw [e_22]
      rw [q7]
      omega
  have nf4 : fc_1 (23, [22], [0, -1]) ws (vs ++ [Value.int x]) := by
    refine ⟨fun n hn => ?_, ?_⟩
    · have hn : n ∈ [22] := hn
      rw [List.length_append, hl]
      simp only [List.mem_cons, List.not_mem_nil, or_false] at hn
      show n < 28 + 1; omega
    · show (-1) * v_iv (n_v (vs ++ [Value.int x]) 22) + 0 ≤ 0
      rw [e_22]
      omega
  have nf5 : fc_1 (23, [4], [0, -1]) ws (vs ++ [Value.int x]) := by
    refine ⟨fun n hn => ?_, ?_⟩
    · have hn : n ∈ [4] := hn
      rw [List.length_append, hl]
      simp only [List.mem_cons, List.not_mem_nil, or_false] at hn
      show n < 28 + 1; omega
    · show (-1) * v_iv (n_v (vs ++ [Value.int x]) 4) + 0 ≤ 0
      rw [e_4]
      omega
  have nf6 : fc_1 (20, [28, 5], [30, -2001, -1, 0, 0, -1, 1, 11]) ws (vs ++ [Value.int x]) := by
    refine ⟨fun n hn => ?_, ?_⟩
    · have hn : n ∈ [28, 5] := hn
      rw [List.length_append, hl]
      simp only [List.mem_cons, List.not_mem_nil, or_false] at hn
      show n < 28 + 1; omega
    · show (-1) * v_iv (n_v (vs ++ [Value.int x]) 28) + ((-1) * w_fi ws (n_v (vs ++ [Value.int x]) 5) 11 + 0) ≤ (-2001)
      rw [e_5]
      rw [e_28]
      rw [q5]
      omega
  have nf7 : fc_1 (24, [0, 5], []) ws (vs ++ [Value.int x]) := by
    refine ⟨fun n hn => ?_, ?_⟩
    · have hn : n ∈ [0, 5] := hn
      rw [List.length_append, hl]
      simp only [List.mem_cons, List.not_mem_nil, or_false] at hn
      show n < 28 + 1; omega
    · show n_v (vs ++ [Value.int x]) 0 = n_v (vs ++ [Value.int x]) 5
      first | rfl | simp only [e_0, e_5, q5, q7]
  have nf8 : fc_1 (24, [2, 7], []) ws (vs ++ [Value.int x]) := by
    refine ⟨fun n hn => ?_, ?_⟩
    · have hn : n ∈ [2, 7] := hn
      rw [List.length_append, hl]
      simp only [List.mem_cons, List.not_mem_nil, or_false] at hn
      show n < 28 + 1; omega
    · show n_v (vs ++ [Value.int x]) 2 = n_v (vs ++ [Value.int x]) 7
      first | rfl | simp only [e_2, e_7, q5, q7]
  obtain ⟨x0, e0, _, _⟩ := tv_int t9 rfl
  have e1 : v_iv (n_v vs 9) = x0.toInt := by rw [e0]; rfl
  have ho : sy_ofs (vs ++ [Value.int x]) (28, 9, 0, 0) := by
    refine ⟨x, x0, by rw [List.getElem?_append_right (by rw [hl]; decide), hl]; rfl, ?_, ?_, ?_⟩
    · rw [List.getElem?_append_left (by rw [hl]; decide)]; exact n_v_some (by rw [hl]; decide) e0
    · show x0.toInt + 0 ≤ x.toInt; omega
    · show x.toInt ≤ x0.toInt + 0; omega
  exact ⟨(fun _ h => (by cases h)), [Value.int x], ag_one hx, List.forall_mem_cons.mpr ⟨⟨show (20 : Nat) < 100 from by decide, nf0⟩, List.forall_mem_cons.mpr ⟨⟨show (20 : Nat) < 100 from by decide, nf1⟩, List.forall_mem_cons.mpr ⟨⟨show (20 : Nat) < 100 from by decide, nf2⟩, List.forall_mem_cons.mpr ⟨⟨show (23 : Nat) < 100 from by decide, nf3⟩, List.forall_mem_cons.mpr ⟨⟨show (23 : Nat) < 100 from by decide, nf4⟩, List.forall_mem_cons.mpr ⟨⟨show (23 : Nat) < 100 from by decide, nf5⟩, List.forall_mem_cons.mpr ⟨⟨show (20 : Nat) < 100 from by decide, nf6⟩, List.forall_mem_cons.mpr ⟨⟨show (24 : Nat) < 100 from by decide, nf7⟩, List.forall_mem_cons.mpr ⟨⟨show (24 : Nat) < 100 from by decide, nf8⟩, (fun _ h => (by cases h))⟩⟩⟩⟩⟩⟩⟩⟩⟩, List.forall_mem_cons.mpr ⟨ho, (fun _ h => (by cases h))⟩⟩
def o_Mo_of_at_s5003_24 : or_T := (135, 25, [(0, (2, 0, 0, [150])), (2, (0, 9, 9, [])), (3, (0, 0, 2000, [])), (5, (2, 0, 0, [150])), (7, (0, 9, 9, [])), (8, (0, -2147483648, 0, [])), (9, (0, 0, 2000, [])), (13, (0, 0, 2000, [])), (15, (0, 0, 2000, [])), (21, (0, 0, 0, [])), (22, (0, 1, 9, []))], [(9, [22, 5], [14]), (8, [21], [5]), (9, [21, 5], [8]), (8, [21], [0]), (23, [15, 13], [0, 1, -1]), (23, [15, 13], [0, -1, 1]), (23, [3, 15], [-1, 1, -1]), (23, [9, 15], [-2000, -1, -1]), (23, [3, 13], [-1, 1, -1]), (23, [9, 13], [-2000, -1, -1]), (23, [8, 7], [0, 1, -1]), (23, [8], [0, -1]), (24, [0, 5], []), (24, [2, 7], []), (20, [5, 5], [30, 0, 1, 1, 15, -1, 1, 11]), (20, [5], [50, 3, 0, 12, 11, 15, 2, 21, 4, 7, 1, 3, 2, 0, 12, 0, 1, 0, 3, 2, 0, 11, 4, 3, 2, 0, 15, 0, 8, 3, 7, 1, 3, 2, 0, 12, 0, 0, 0, 7, 4, 3, 2, 0, 15, 0, 1, 2, 0, 11]), (20, [15, 5], [30, 0, 1, 0, 0, -1, 1, 11]), (20, [5], [30, -1, -1, 1, 8]), (102, [20], [0, 13008, 13009]), (23, [15, 13], [0, 1, -1]), (23, [15, 13], [0, -1, 1]), (23, [3, 15], [-1, 1, -1]), (23, [9, 15], [-2000, -1, -1]), (23, [3, 13], [-1, 1, -1]), (23, [9, 13], [-2000, -1, -1]), (23, [8, 7], [0, 1, -1]), (23, [8], [0, -1]), (102, [15], [0, 13008, 13009, 13011, 13012, 13013, 13014, 13015]), (23, [15, 13], [0, 1, -1]), (23, [15, 13], [0, -1, 1]), (23, [3, 15], [-1, 1, -1]), (23, [9, 15], [-2000, -1, -1]), (23, [3, 13], [-1, 1, -1]), (23, [9, 13], [-2000, -1, -1]), (23, [8, 7], [0, 1, -1]), (23, [8], [0, -1]), (102, [13], [0, 13011, 13012, 13013, 13014, 13015]), (23, [3, 13], [-1, 1, -1]), (23, [9, 13], [-2000, -1, -1]), (8, [8], [5]), (23, [8, 7], [0, 1, -1]), (23, [8], [0, -1]), (102, [11], [0]), (23, [8, 7], [0, 1, -1]), (23, [8], [0, -1])], [], [], [(23, [22, 7], [0, 1, -1]), (23, [22], [0, -1])], [], [(22, 7, -4294967296, 0), (2, 3, -4294967296, 9), (2, 7, -4294967296, 0), (2, 8, -4294967296, 2147483657), (3, 2, -4294967296, 1991), (3, 7, -4294967296, 1991), (3, 8, -4294967296, 2147485648), (7, 2, -4294967296, 0), (7, 3, -4294967296, 9), (7, 8, -4294967296, 2147483657), (8, 2, -4294967296, 2147483638), (8, 3, -4294967296, 2147483647), (8, 7, -4294967296, 2147483638)])
theorem oo_Mo_of_at_s5003_24 {kA : Nat → ClassId} : or_ok kA GG o_Mo_of_at_s5003_24 := by
  intro A ta ws vs hD hth hl hk hds hf
  have hl : vs.length = 25 := hl
  have hk : ∀ q ∈ ([(0, (2, 0, 0, [150])), (2, (0, 9, 9, [])), (3, (0, 0, 2000, [])), (5, (2, 0, 0, [150])), (7, (0, 9, 9, [])), (8, (0, -2147483648, 0, [])), (9, (0, 0, 2000, [])), (13, (0, 0, 2000, [])), (15, (0, 0, 2000, [])), (21, (0, 0, 0, [])), (22, (0, 1, 9, []))] : List (Nat × tv_T)), tv_ok ta q.2 (n_v vs q.1) := hk
  obtain ⟨t0, hk⟩ := List.forall_mem_cons.mp hk
  have t0 : tv_ok ta (2, 0, 0, [150]) (n_v vs 0) := t0
  have r0 : ta (v_ad (n_v vs 0)) = some 150 := tv_rg t0
  obtain ⟨t2, hk⟩ := List.forall_mem_cons.mp hk
  have t2 : tv_ok ta (0, 9, 9, []) (n_v vs 2) := t2
  have k2 : 9 ≤ v_iv (n_v vs 2) ∧ v_iv (n_v vs 2) ≤ 9 := tv_rng t2
  obtain ⟨t3, hk⟩ := List.forall_mem_cons.mp hk
  have t3 : tv_ok ta (0, 0, 2000, []) (n_v vs 3) := t3
  have k3 : 0 ≤ v_iv (n_v vs 3) ∧ v_iv (n_v vs 3) ≤ 2000 := tv_rng t3
  obtain ⟨t5, hk⟩ := List.forall_mem_cons.mp hk
  have t5 : tv_ok ta (2, 0, 0, [150]) (n_v vs 5) := t5
  have r5 : ta (v_ad (n_v vs 5)) = some 150 := tv_rg t5
  obtain ⟨t7, hk⟩ := List.forall_mem_cons.mp hk
  have t7 : tv_ok ta (0, 9, 9, []) (n_v vs 7) := t7
  have k7 : 9 ≤ v_iv (n_v vs 7) ∧ v_iv (n_v vs 7) ≤ 9 := tv_rng t7
  obtain ⟨t8, hk⟩ := List.forall_mem_cons.mp hk
  have t8 : tv_ok ta (0, -2147483648, 0, []) (n_v vs 8) := t8
  have k8 : (-2147483648) ≤ v_iv (n_v vs 8) ∧ v_iv (n_v vs 8) ≤ 0 := tv_rng t8
  obtain ⟨t9, hk⟩ := List.forall_mem_cons.mp hk
  have t9 : tv_ok ta (0, 0, 2000, []) (n_v vs 9) := t9
  have k9 : 0 ≤ v_iv (n_v vs 9) ∧ v_iv (n_v vs 9) ≤ 2000 := tv_rng t9
  obtain ⟨t13, hk⟩ := List.forall_mem_cons.mp hk
  have t13 : tv_ok ta (0, 0, 2000, []) (n_v vs 13) := t13
  have k13 : 0 ≤ v_iv (n_v vs 13) ∧ v_iv (n_v vs 13) ≤ 2000 := tv_rng t13
  obtain ⟨t15, hk⟩ := List.forall_mem_cons.mp hk
  have t15 : tv_ok ta (0, 0, 2000, []) (n_v vs 15) := t15
  have k15 : 0 ≤ v_iv (n_v vs 15) ∧ v_iv (n_v vs 15) ≤ 2000 := tv_rng t15
  obtain ⟨t21, hk⟩ := List.forall_mem_cons.mp hk
  have t21 : tv_ok ta (0, 0, 0, []) (n_v vs 21) := t21
  have k21 : 0 ≤ v_iv (n_v vs 21) ∧ v_iv (n_v vs 21) ≤ 0 := tv_rng t21
  obtain ⟨t22, hk⟩ := List.forall_mem_cons.mp hk
  have t22 : tv_ok ta (0, 1, 9, []) (n_v vs 22) := t22
  have k22 : 1 ≤ v_iv (n_v vs 22) ∧ v_iv (n_v vs 22) ≤ 9 := tv_rng t22
  have hds : ∀ q ∈ ([(22, 7, -4294967296, 0), (2, 3, -4294967296, 9), (2, 7, -4294967296, 0), (2, 8, -4294967296, 2147483657), (3, 2, -4294967296, 1991), (3, 7, -4294967296, 1991), (3, 8, -4294967296, 2147485648), (7, 2, -4294967296, 0), (7, 3, -4294967296, 9), (7, 8, -4294967296, 2147483657), (8, 2, -4294967296, 2147483638), (8, 3, -4294967296, 2147483647), (8, 7, -4294967296, 2147483638)] : List of_T), n_iv vs q.2.1 + q.2.2.1 ≤ n_iv vs q.1 ∧ n_iv vs q.1 ≤ n_iv vs q.2.1 + q.2.2.2 := hds
  obtain ⟨d0, hds⟩ := List.forall_mem_cons.mp hds
  have d0 : v_iv (n_v vs 7) + (-4294967296) ≤ v_iv (n_v vs 22) ∧ v_iv (n_v vs 22) ≤ v_iv (n_v vs 7) + 0 := d0
  obtain ⟨d1, hds⟩ := List.forall_mem_cons.mp hds
  have d1 : v_iv (n_v vs 3) + (-4294967296) ≤ v_iv (n_v vs 2) ∧ v_iv (n_v vs 2) ≤ v_iv (n_v vs 3) + 9 := d1
  obtain ⟨d2, hds⟩ := List.forall_mem_cons.mp hds
  have d2 : v_iv (n_v vs 7) + (-4294967296) ≤ v_iv (n_v vs 2) ∧ v_iv (n_v vs 2) ≤ v_iv (n_v vs 7) + 0 := d2
  obtain ⟨d3, hds⟩ := List.forall_mem_cons.mp hds
  have d3 : v_iv (n_v vs 8) + (-4294967296) ≤ v_iv (n_v vs 2) ∧ v_iv (n_v vs 2) ≤ v_iv (n_v vs 8) + 2147483657 := d3
  obtain ⟨d4, hds⟩ := List.forall_mem_cons.mp hds
  have d4 : v_iv (n_v vs 2) + (-4294967296) ≤ v_iv (n_v vs 3) ∧ v_iv (n_v vs 3) ≤ v_iv (n_v vs 2) + 1991 := d4
  obtain ⟨d5, hds⟩ := List.forall_mem_cons.mp hds
  have d5 : v_iv (n_v vs 7) + (-4294967296) ≤ v_iv (n_v vs 3) ∧ v_iv (n_v vs 3) ≤ v_iv (n_v vs 7) + 1991 := d5
  obtain ⟨d6, hds⟩ := List.forall_mem_cons.mp hds
  have d6 : v_iv (n_v vs 8) + (-4294967296) ≤ v_iv (n_v vs 3) ∧ v_iv (n_v vs 3) ≤ v_iv (n_v vs 8) + 2147485648 := d6
  obtain ⟨d7, hds⟩ := List.forall_mem_cons.mp hds
  have d7 : v_iv (n_v vs 2) + (-4294967296) ≤ v_iv (n_v vs 7) ∧ v_iv (n_v vs 7) ≤ v_iv (n_v vs 2) + 0 := d7
  obtain ⟨d8, hds⟩ := List.forall_mem_cons.mp hds
  have d8 : v_iv (n_v vs 3) + (-4294967296) ≤ v_iv (n_v vs 7) ∧ v_iv (n_v vs 7) ≤ v_iv (n_v vs 3) + 9 := d8
  obtain ⟨d9, hds⟩ := List.forall_mem_cons.mp hds
  have d9 : v_iv (n_v vs 8) + (-4294967296) ≤ v_iv (n_v vs 7) ∧ v_iv (n_v vs 7) ≤ v_iv (n_v vs 8) + 2147483657 := d9
  obtain ⟨d10, hds⟩ := List.forall_mem_cons.mp hds
  have d10 : v_iv (n_v vs 2) + (-4294967296) ≤ v_iv (n_v vs 8) ∧ v_iv (n_v vs 8) ≤ v_iv (n_v vs 2) + 2147483638 := d10
  obtain ⟨d11, hds⟩ := List.forall_mem_cons.mp hds
  have d11 : v_iv (n_v vs 3) + (-4294967296) ≤ v_iv (n_v vs 8) ∧ v_iv (n_v vs 8) ≤ v_iv (n_v vs 3) + 2147483647 := d11
  obtain ⟨d12, hds⟩ := List.forall_mem_cons.mp hds
  have d12 : v_iv (n_v vs 7) + (-4294967296) ≤ v_iv (n_v vs 8) ∧ v_iv (n_v vs 8) ≤ v_iv (n_v vs 7) + 2147483638 := d12
  have hf : fc_ok [(9, [22, 5], [14]), (8, [21], [5]), (9, [21, 5], [8]), (8, [21], [0]), (23, [15, 13], [0, 1, -1]), (23, [15, 13], [0, -1, 1]), (23, [3, 15], [-1, 1, -1]), (23, [9, 15], [-2000, -1, -1]), (23, [3, 13], [-1, 1, -1]), (23, [9, 13], [-2000, -1, -1]), (23, [8, 7], [0, 1, -1]), (23, [8], [0, -1]), (24, [0, 5], []), (24, [2, 7], []), (20, [5, 5], [30, 0, 1, 1, 15, -1, 1, 11]), (20, [5], [50, 3, 0, 12, 11, 15, 2, 21, 4, 7, 1, 3, 2, 0, 12, 0, 1, 0, 3, 2, 0, 11, 4, 3, 2, 0, 15, 0, 8, 3, 7, 1, 3, 2, 0, 12, 0, 0, 0, 7, 4, 3, 2, 0, 15, 0, 1, 2, 0, 11]), (20, [15, 5], [30, 0, 1, 0, 0, -1, 1, 11]), (20, [5], [30, -1, -1, 1, 8]), (102, [20], [0, 13008, 13009]), (23, [15, 13], [0, 1, -1]), (23, [15, 13], [0, -1, 1]), (23, [3, 15], [-1, 1, -1]), (23, [9, 15], [-2000, -1, -1]), (23, [3, 13], [-1, 1, -1]), (23, [9, 13], [-2000, -1, -1]), (23, [8, 7], [0, 1, -1]), (23, [8], [0, -1]), (102, [15], [0, 13008, 13009, 13011, 13012, 13013, 13014, 13015]), (23, [15, 13], [0, 1, -1]), (23, [15, 13], [0, -1, 1]), (23, [3, 15], [-1, 1, -1]), (23, [9, 15], [-2000, -1, -1]), (23, [3, 13], [-1, 1, -1]), (23, [9, 13], [-2000, -1, -1]), (23, [8, 7], [0, 1, -1]), (23, [8], [0, -1]), (102, [13], [0, 13011, 13012, 13013, 13014, 13015]), (23, [3, 13], [-1, 1, -1]), (23, [9, 13], [-2000, -1, -1]), (8, [8], [5]), (23, [8, 7], [0, 1, -1]), (23, [8], [0, -1]), (102, [11], [0]), (23, [8, 7], [0, 1, -1]), (23, [8], [0, -1])] ta ws vs := hf
  obtain ⟨f0, hf⟩ := fc_un (show (9 : Nat) < 100 from by decide) hf
  have f0 : n_v vs 22 = w_fd ws (v_ad (n_v vs 5)) 14 := f0
  obtain ⟨f1, hf⟩ := fc_un (show (8 : Nat) < 100 from by decide) hf
  have f1 : v_iv (n_v vs 21) ≤ 0 := f1
  obtain ⟨f2, hf⟩ := fc_un (show (9 : Nat) < 100 from by decide) hf
  have f2 : n_v vs 21 = w_fd ws (v_ad (n_v vs 5)) 8 := f2
  obtain ⟨f3, hf⟩ := fc_un (show (8 : Nat) < 100 from by decide) hf
  have f3 : v_iv (n_v vs 21) = 0 := f3
  obtain ⟨f4, hf⟩ := fc_un (show (23 : Nat) < 100 from by decide) hf
  have f4 : 1 * v_iv (n_v vs 15) + ((-1) * v_iv (n_v vs 13) + 0) ≤ 0 := f4
  obtain ⟨f5, hf⟩ := fc_un (show (23 : Nat) < 100 from by decide) hf
  have f5 : (-1) * v_iv (n_v vs 15) + (1 * v_iv (n_v vs 13) + 0) ≤ 0 := f5
  obtain ⟨f6, hf⟩ := fc_un (show (23 : Nat) < 100 from by decide) hf
  have f6 : 1 * v_iv (n_v vs 3) + ((-1) * v_iv (n_v vs 15) + 0) ≤ (-1) := f6
  obtain ⟨f7, hf⟩ := fc_un (show (23 : Nat) < 100 from by decide) hf
  have f7 : (-1) * v_iv (n_v vs 9) + ((-1) * v_iv (n_v vs 15) + 0) ≤ (-2000) := f7
  obtain ⟨f8, hf⟩ := fc_un (show (23 : Nat) < 100 from by decide) hf
  have f8 : 1 * v_iv (n_v vs 3) + ((-1) * v_iv (n_v vs 13) + 0) ≤ (-1) := f8
  obtain ⟨f9, hf⟩ := fc_un (show (23 : Nat) < 100 from by decide) hf
  have f9 : (-1) * v_iv (n_v vs 9) + ((-1) * v_iv (n_v vs 13) + 0) ≤ (-2000) := f9
  obtain ⟨f10, hf⟩ := fc_un (show (23 : Nat) < 100 from by decide) hf
  have f10 : 1 * v_iv (n_v vs 8) + ((-1) * v_iv (n_v vs 7) + 0) ≤ 0 := f10
  obtain ⟨f11, hf⟩ := fc_un (show (23 : Nat) < 100 from by decide) hf
  have f11 : (-1) * v_iv (n_v vs 8) + 0 ≤ 0 := f11
  obtain ⟨f12, hf⟩ := fc_un (show (24 : Nat) < 100 from by decide) hf
  have f12 : n_v vs 0 = n_v vs 5 := f12
  obtain ⟨f13, hf⟩ := fc_un (show (24 : Nat) < 100 from by decide) hf
  have f13 : n_v vs 2 = n_v vs 7 := f13
  obtain ⟨f14, hf⟩ := fc_un (show (20 : Nat) < 100 from by decide) hf
  have f14 : 1 * w_fi ws (n_v vs 5) 15 + ((-1) * w_fi ws (n_v vs 5) 11 + 0) ≤ 0 := f14
  obtain ⟨f15, hf⟩ := fc_un (show (20 : Nat) < 100 from by decide) hf
  have f15 : ((w_fi ws (n_v vs 5) 12 = 1) → (w_fi ws (n_v vs 5) 11 ≤ (w_fi ws (n_v vs 5) 15 + 8))) ∧ ((w_fi ws (n_v vs 5) 12 = 0) ∨ ((w_fi ws (n_v vs 5) 15 + 1) ≤ w_fi ws (n_v vs 5) 11)) := f15
  obtain ⟨f16, hf⟩ := fc_un (show (20 : Nat) < 100 from by decide) hf
  have f16 : 1 * v_iv (n_v vs 15) + ((-1) * w_fi ws (n_v vs 5) 11 + 0) ≤ 0 := f16
  obtain ⟨f17, hf⟩ := fc_un (show (20 : Nat) < 100 from by decide) hf
  have f17 : (-1) * w_fi ws (n_v vs 5) 8 + 0 ≤ (-1) := f17
  obtain ⟨ta1, w1, le1, ⟨_, s1⟩, hf⟩ := fc_us (show ¬ (102 : Nat) < 100 from by decide) hf
  obtain ⟨f19, hf⟩ := fc_un (show (23 : Nat) < 100 from by decide) hf
  have f19 : 1 * v_iv (n_v vs 15) + ((-1) * v_iv (n_v vs 13) + 0) ≤ 0 := f19
  obtain ⟨f20, hf⟩ := fc_un (show (23 : Nat) < 100 from by decide) hf
  have f20 : (-1) * v_iv (n_v vs 15) + (1 * v_iv (n_v vs 13) + 0) ≤ 0 := f20
  obtain ⟨f21, hf⟩ := fc_un (show (23 : Nat) < 100 from by decide) hf
  have f21 : 1 * v_iv (n_v vs 3) + ((-1) * v_iv (n_v vs 15) + 0) ≤ (-1) := f21
  obtain ⟨f22, hf⟩ := fc_un (show (23 : Nat) < 100 from by decide) hf
  have f22 : (-1) * v_iv (n_v vs 9) + ((-1) * v_iv (n_v vs 15) + 0) ≤ (-2000) := f22
  obtain ⟨f23, hf⟩ := fc_un (show (23 : Nat) < 100 from by decide) hf
  have f23 : 1 * v_iv (n_v vs 3) + ((-1) * v_iv (n_v vs 13) + 0) ≤ (-1) := f23
  obtain ⟨f24, hf⟩ := fc_un (show (23 : Nat) < 100 from by decide) hf
  have f24 : (-1) * v_iv (n_v vs 9) + ((-1) * v_iv (n_v vs 13) + 0) ≤ (-2000) := f24
  obtain ⟨f25, hf⟩ := fc_un (show (23 : Nat) < 100 from by decide) hf
  have f25 : 1 * v_iv (n_v vs 8) + ((-1) * v_iv (n_v vs 7) + 0) ≤ 0 := f25
  obtain ⟨f26, hf⟩ := fc_un (show (23 : Nat) < 100 from by decide) hf
  have f26 : (-1) * v_iv (n_v vs 8) + 0 ≤ 0 := f26
  obtain ⟨ta2, w2, le2, ⟨_, s2⟩, hf⟩ := fc_us (show ¬ (102 : Nat) < 100 from by decide) hf
  obtain ⟨f28, hf⟩ := fc_un (show (23 : Nat) < 100 from by decide) hf
  have f28 : 1 * v_iv (n_v vs 15) + ((-1) * v_iv (n_v vs 13) + 0) ≤ 0 := f28
  obtain ⟨f29, hf⟩ := fc_un (show (23 : Nat) < 100 from by decide) hf
  have f29 : (-1) * v_iv (n_v vs 15) + (1 * v_iv (n_v vs 13) + 0) ≤ 0 := f29
  obtain ⟨f30, hf⟩ := fc_un (show (23 : Nat) < 100 from by decide) hf
  have f30 : 1 * v_iv (n_v vs 3) + ((-1) * v_iv (n_v vs 15) + 0) ≤ (-1) := f30
  obtain ⟨f31, hf⟩ := fc_un (show (23 : Nat) < 100 from by decide) hf
  have f31 : (-1) * v_iv (n_v vs 9) + ((-1) * v_iv (n_v vs 15) + 0) ≤ (-2000) := f31
  obtain ⟨f32, hf⟩ := fc_un (show (23 : Nat) < 100 from by decide) hf
  have f32 : 1 * v_iv (n_v vs 3) + ((-1) * v_iv (n_v vs 13) + 0) ≤ (-1) := f32
  obtain ⟨f33, hf⟩ := fc_un (show (23 : Nat) < 100 from by decide) hf
  have f33 : (-1) * v_iv (n_v vs 9) + ((-1) * v_iv (n_v vs 13) + 0) ≤ (-2000) := f33
  obtain ⟨f34, hf⟩ := fc_un (show (23 : Nat) < 100 from by decide) hf
  have f34 : 1 * v_iv (n_v vs 8) + ((-1) * v_iv (n_v vs 7) + 0) ≤ 0 := f34
  obtain ⟨f35, hf⟩ := fc_un (show (23 : Nat) < 100 from by decide) hf
  have f35 : (-1) * v_iv (n_v vs 8) + 0 ≤ 0 := f35
  obtain ⟨ta3, w3, le3, ⟨_, s3⟩, hf⟩ := fc_us (show ¬ (102 : Nat) < 100 from by decide) hf
  obtain ⟨f37, hf⟩ := fc_un (show (23 : Nat) < 100 from by decide) hf
  have f37 : 1 * v_iv (n_v vs 3) + ((-1) * v_iv (n_v vs 13) + 0) ≤ (-1) := f37
  obtain ⟨f38, hf⟩ := fc_un (show (23 : Nat) < 100 from by decide) hf
  have f38 : (-1) * v_iv (n_v vs 9) + ((-1) * v_iv (n_v vs 13) + 0) ≤ (-2000) := f38
  obtain ⟨f39, hf⟩ := fc_un (show (8 : Nat) < 100 from by decide) hf
  have f39 : v_iv (n_v vs 8) ≤ 0 := f39
  obtain ⟨f40, hf⟩ := fc_un (show (23 : Nat) < 100 from by decide) hf
  have f40 : 1 * v_iv (n_v vs 8) + ((-1) * v_iv (n_v vs 7) + 0) ≤ 0 := f40
  obtain ⟨f41, hf⟩ := fc_un (show (23 : Nat) < 100 from by decide) hf
  have f41 : (-1) * v_iv (n_v vs 8) + 0 ≤ 0 := f41
  obtain ⟨ta4, w4, le4, ⟨_, s4⟩, hf⟩ := fc_us (show ¬ (102 : Nat) < 100 from by decide) hf
  obtain ⟨f43, hf⟩ := fc_un (show (23 : Nat) < 100 from by decide) hf
  have f43 : 1 * v_iv (n_v vs 8) + ((-1) * v_iv (n_v vs 7) + 0) ≤ 0 := f43
  obtain ⟨f44, hf⟩ := fc_un (show (23 : Nat) < 100 from by decide) hf
  have f44 : (-1) * v_iv (n_v vs 8) + 0 ≤ 0 := f44
  have q5 : n_v vs 5 = n_v vs 0 := f12.symm
  have q7 : n_v vs 7 = n_v vs 2 := f13.symm
  rw [q5] at f0
  rw [q5] at f2
  rw [q7] at f10
  rw [q5] at f14
  rw [q5] at f15
  rw [q5] at f16
  rw [q5] at f17
  rw [q7] at f25
  rw [q7] at f34
  rw [q7] at f40
  rw [q7] at f43
  have g0 : v_iv (n_v vs 22) = w_fi ws (n_v vs 0) 14 := congrArg v_iv f0
  have g2 : v_iv (n_v vs 21) = w_fi ws (n_v vs 0) 8 := congrArg v_iv f2
  have kz_0_8 : 0 ≤ w_fi ws (n_v vs 0) 8 ∧ w_fi ws (n_v vs 0) 8 ≤ 5 := tv_rng (th_fd hD hth r0 (g := GG_150) rfl (k := 8) (t := (0, 0, 5, [])) rfl rfl)
  have kz_0_11 : 0 ≤ w_fi ws (n_v vs 0) 11 ∧ w_fi ws (n_v vs 0) 11 ≤ 2000 := tv_rng (th_fd hD hth r0 (g := GG_150) rfl (k := 11) (t := (0, 0, 2000, [])) rfl rfl)
  have kz_0_12 : 0 ≤ w_fi ws (n_v vs 0) 12 ∧ w_fi ws (n_v vs 0) 12 ≤ 4 := tv_rng (th_fd hD hth r0 (g := GG_150) rfl (k := 12) (t := (0, 0, 4, [])) rfl rfl)
  have kz_0_14 : (-2147483648) ≤ w_fi ws (n_v vs 0) 14 ∧ w_fi ws (n_v vs 0) 14 ≤ 2147483647 := tv_rng (th_fd hD hth r0 (g := GG_150) rfl (k := 14) (t := (0, -2147483648, 2147483647, [])) rfl rfl)
  have kz_0_15 : 0 ≤ w_fi ws (n_v vs 0) 15 ∧ w_fi ws (n_v vs 0) 15 ≤ 2000 := tv_rng (th_fd hD hth r0 (g := GG_150) rfl (k := 15) (t := (0, 0, 2000, [])) rfl rfl)
  have nf0 : fc_1 (23, [22, 7], [0, 1, -1]) ws (vs) := by
    refine ⟨fun n hn => ?_, ?_⟩
    · have hn : n ∈ [22, 7] := hn
      rw [hl]
      simp only [List.mem_cons, List.not_mem_nil, or_false] at hn
      show n < 25; omega
    · show 1 * v_iv (n_v vs 22) + ((-1) * v_iv (n_v vs 7) + 0) ≤ 0
      rw [q7]
      omega
  have nf1 : fc_1 (23, [22], [0, -1]) ws (vs) := by
    refine ⟨fun n hn => ?_, ?_⟩
    · have hn : n ∈ [22] := hn
      rw [hl]
      simp only [List.mem_cons, List.not_mem_nil, or_false] at hn
      show n < 25; omega
    · show (-1) * v_iv (n_v vs 22) + 0 ≤ 0
      omega
  refine ⟨(fun _ h => (by cases h)), [], trivial, ?_, (fun _ h => (by cases h))⟩
  rw [List.append_nil]
  exact List.forall_mem_cons.mpr ⟨⟨show (23 : Nat) < 100 from by decide, nf0⟩, List.forall_mem_cons.mpr ⟨⟨show (23 : Nat) < 100 from by decide, nf1⟩, (fun _ h => (by cases h))⟩⟩
def o_Mo_of_at_s5003_25 : or_T := (136, 25, [(0, (2, 0, 0, [150])), (2, (0, 9, 9, [])), (3, (0, 0, 2000, [])), (5, (2, 0, 0, [150])), (7, (0, 9, 9, [])), (9, (0, 0, 2000, [])), (13, (0, 0, 2000, [])), (15, (0, 0, 2000, [])), (21, (0, 0, 0, []))], [(8, [21], [5]), (9, [21, 5], [8]), (8, [21], [0]), (23, [15, 13], [0, 1, -1]), (23, [15, 13], [0, -1, 1]), (23, [3, 15], [-1, 1, -1]), (23, [9, 15], [-2000, -1, -1]), (23, [3, 13], [-1, 1, -1]), (23, [9, 13], [-2000, -1, -1]), (24, [0, 5], []), (24, [2, 7], []), (20, [5, 5], [30, 0, 1, 1, 15, -1, 1, 11]), (20, [5], [50, 3, 0, 12, 11, 15, 2, 21, 4, 7, 1, 3, 2, 0, 12, 0, 1, 0, 3, 2, 0, 11, 4, 3, 2, 0, 15, 0, 8, 3, 7, 1, 3, 2, 0, 12, 0, 0, 0, 7, 4, 3, 2, 0, 15, 0, 1, 2, 0, 11]), (20, [15, 5], [30, 0, 1, 0, 0, -1, 1, 11]), (20, [5], [30, -1, -1, 1, 8]), (102, [20], [0, 13008, 13009]), (23, [15, 13], [0, 1, -1]), (23, [15, 13], [0, -1, 1]), (23, [3, 15], [-1, 1, -1]), (23, [9, 15], [-2000, -1, -1]), (23, [3, 13], [-1, 1, -1]), (23, [9, 13], [-2000, -1, -1]), (102, [15], [0, 13008, 13009, 13011, 13012, 13013, 13014, 13015]), (23, [15, 13], [0, 1, -1]), (23, [15, 13], [0, -1, 1]), (23, [3, 15], [-1, 1, -1]), (23, [9, 15], [-2000, -1, -1]), (23, [3, 13], [-1, 1, -1]), (23, [9, 13], [-2000, -1, -1]), (102, [13], [0, 13011, 13012, 13013, 13014, 13015]), (23, [3, 13], [-1, 1, -1]), (23, [9, 13], [-2000, -1, -1])], [], [(0, 0, 2000, [])], [(20, [25, 5], [30, 0, 1, 0, 0, -1, 1, 11]), (23, [3, 25], [-1, 1, -1]), (23, [9, 25], [-2001, -1, -1])], [], [(2, 3, -4294967296, 9), (2, 7, -4294967296, 0), (3, 2, -4294967296, 1991), (3, 7, -4294967296, 1991), (7, 2, -4294967296, 0), (7, 3, -4294967296, 9)])
theorem oo_Mo_of_at_s5003_25 {kA : Nat → ClassId} : or_ok kA GG o_Mo_of_at_s5003_25 := by
  intro A ta ws vs hD hth hl hk hds hf
  have hl : vs.length = 25 := hl
  have hk : ∀ q ∈ ([(0, (2, 0, 0, [150])), (2, (0, 9, 9, [])), (3, (0, 0, 2000, [])), (5, (2, 0, 0, [150])), (7, (0, 9, 9, [])), (9, (0, 0, 2000, [])), (13, (0, 0, 2000, [])), (15, (0, 0, 2000, [])), (21, (0, 0, 0, []))] : List (Nat × tv_T)), tv_ok ta q.2 (n_v vs q.1) := hk
  obtain ⟨t0, hk⟩ := List.forall_mem_cons.mp hk
  have t0 : tv_ok ta (2, 0, 0, [150]) (n_v vs 0) := t0
  have r0 : ta (v_ad (n_v vs 0)) = some 150 := tv_rg t0
  obtain ⟨t2, hk⟩ := List.forall_mem_cons.mp hk
  have t2 : tv_ok ta (0, 9, 9, []) (n_v vs 2) := t2
  have k2 : 9 ≤ v_iv (n_v vs 2) ∧ v_iv (n_v vs 2) ≤ 9 := tv_rng t2
  obtain ⟨t3, hk⟩ := List.forall_mem_cons.mp hk
  have t3 : tv_ok ta (0, 0, 2000, []) (n_v vs 3) := t3
  have k3 : 0 ≤ v_iv (n_v vs 3) ∧ v_iv (n_v vs 3) ≤ 2000 := tv_rng t3
  obtain ⟨t5, hk⟩ := List.forall_mem_cons.mp hk
  have t5 : tv_ok ta (2, 0, 0, [150]) (n_v vs 5) := t5
  have r5 : ta (v_ad (n_v vs 5)) = some 150 := tv_rg t5
  obtain ⟨t7, hk⟩ := List.forall_mem_cons.mp hk
  have t7 : tv_ok ta (0, 9, 9, []) (n_v vs 7) := t7
  have k7 : 9 ≤ v_iv (n_v vs 7) ∧ v_iv (n_v vs 7) ≤ 9 := tv_rng t7
  obtain ⟨t9, hk⟩ := List.forall_mem_cons.mp hk
  have t9 : tv_ok ta (0, 0, 2000, []) (n_v vs 9) := t9
  have k9 : 0 ≤ v_iv (n_v vs 9) ∧ v_iv (n_v vs 9) ≤ 2000 := tv_rng t9
  obtain ⟨t13, hk⟩ := List.forall_mem_cons.mp hk
  have t13 : tv_ok ta (0, 0, 2000, []) (n_v vs 13) := t13
  have k13 : 0 ≤ v_iv (n_v vs 13) ∧ v_iv (n_v vs 13) ≤ 2000 := tv_rng t13
  obtain ⟨t15, hk⟩ := List.forall_mem_cons.mp hk
  have t15 : tv_ok ta (0, 0, 2000, []) (n_v vs 15) := t15
  have k15 : 0 ≤ v_iv (n_v vs 15) ∧ v_iv (n_v vs 15) ≤ 2000 := tv_rng t15
  obtain ⟨t21, hk⟩ := List.forall_mem_cons.mp hk
  have t21 : tv_ok ta (0, 0, 0, []) (n_v vs 21) := t21
  have k21 : 0 ≤ v_iv (n_v vs 21) ∧ v_iv (n_v vs 21) ≤ 0 := tv_rng t21
  have hds : ∀ q ∈ ([(2, 3, -4294967296, 9), (2, 7, -4294967296, 0), (3, 2, -4294967296, 1991), (3, 7, -4294967296, 1991), (7, 2, -4294967296, 0), (7, 3, -4294967296, 9)] : List of_T), n_iv vs q.2.1 + q.2.2.1 ≤ n_iv vs q.1 ∧ n_iv vs q.1 ≤ n_iv vs q.2.1 + q.2.2.2 := hds
  obtain ⟨d0, hds⟩ := List.forall_mem_cons.mp hds
  have d0 : v_iv (n_v vs 3) + (-4294967296) ≤ v_iv (n_v vs 2) ∧ v_iv (n_v vs 2) ≤ v_iv (n_v vs 3) + 9 := d0
  obtain ⟨d1, hds⟩ := List.forall_mem_cons.mp hds
  have d1 : v_iv (n_v vs 7) + (-4294967296) ≤ v_iv (n_v vs 2) ∧ v_iv (n_v vs 2) ≤ v_iv (n_v vs 7) + 0 := d1
  obtain ⟨d2, hds⟩ := List.forall_mem_cons.mp hds
  have d2 : v_iv (n_v vs 2) + (-4294967296) ≤ v_iv (n_v vs 3) ∧ v_iv (n_v vs 3) ≤ v_iv (n_v vs 2) + 1991 := d2
  obtain ⟨d3, hds⟩ := List.forall_mem_cons.mp hds
  have d3 : v_iv (n_v vs 7) + (-4294967296) ≤ v_iv (n_v vs 3) ∧ v_iv (n_v vs 3) ≤ v_iv (n_v vs 7) + 1991 := d3
  obtain ⟨d4, hds⟩ := List.forall_mem_cons.mp hds
  have d4 : v_iv (n_v vs 2) + (-4294967296) ≤ v_iv (n_v vs 7) ∧ v_iv (n_v vs 7) ≤ v_iv (n_v vs 2) + 0 := d4
  obtain ⟨d5, hds⟩ := List.forall_mem_cons.mp hds
  have d5 : v_iv (n_v vs 3) + (-4294967296) ≤ v_iv (n_v vs 7) ∧ v_iv (n_v vs 7) ≤ v_iv (n_v vs 3) + 9 := d5
  have hf : fc_ok [(8, [21], [5]), (9, [21, 5], [8]), (8, [21], [0]), (23, [15, 13], [0, 1, -1]), (23, [15, 13], [0, -1, 1]), (23, [3, 15], [-1, 1, -1]), (23, [9, 15], [-2000, -1, -1]), (23, [3, 13], [-1, 1, -1]), (23, [9, 13], [-2000, -1, -1]), (24, [0, 5], []), (24, [2, 7], []), (20, [5, 5], [30, 0, 1, 1, 15, -1, 1, 11]), (20, [5], [50, 3, 0, 12, 11, 15, 2, 21, 4, 7, 1, 3, 2, 0, 12, 0, 1, 0, 3, 2, 0, 11, 4, 3, 2, 0, 15, 0, 8, 3, 7, 1, 3, 2, 0, 12, 0, 0, 0, 7, 4, 3, 2, 0, 15, 0, 1, 2, 0, 11]), (20, [15, 5], [30, 0, 1, 0, 0, -1, 1, 11]), (20, [5], [30, -1, -1, 1, 8]), (102, [20], [0, 13008, 13009]), (23, [15, 13], [0, 1, -1]), (23, [15, 13], [0, -1, 1]), (23, [3, 15], [-1, 1, -1]), (23, [9, 15], [-2000, -1, -1]), (23, [3, 13], [-1, 1, -1]), (23, [9, 13], [-2000, -1, -1]), (102, [15], [0, 13008, 13009, 13011, 13012, 13013, 13014, 13015]), (23, [15, 13], [0, 1, -1]), (23, [15, 13], [0, -1, 1]), (23, [3, 15], [-1, 1, -1]), (23, [9, 15], [-2000, -1, -1]), (23, [3, 13], [-1, 1, -1]), (23, [9, 13], [-2000, -1, -1]), (102, [13], [0, 13011, 13012, 13013, 13014, 13015]), (23, [3, 13], [-1, 1, -1]), (23, [9, 13], [-2000, -1, -1])] ta ws vs := hf
  obtain ⟨f0, hf⟩ := fc_un (show (8 : Nat) < 100 from by decide) hf
  have f0 : v_iv (n_v vs 21) ≤ 0 := f0
  obtain ⟨f1, hf⟩ := fc_un (show (9 : Nat) < 100 from by decide) hf
  have f1 : n_v vs 21 = w_fd ws (v_ad (n_v vs 5)) 8 := f1
  obtain ⟨f2, hf⟩ := fc_un (show (8 : Nat) < 100 from by decide) hf
  have f2 : v_iv (n_v vs 21) = 0 := f2
  obtain ⟨f3, hf⟩ := fc_un (show (23 : Nat) < 100 from by decide) hf
  have f3 : 1 * v_iv (n_v vs 15) + ((-1) * v_iv (n_v vs 13) + 0) ≤ 0 := f3
  obtain ⟨f4, hf⟩ := fc_un (show (23 : Nat) < 100 from by decide) hf
  have f4 : (-1) * v_iv (n_v vs 15) + (1 * v_iv (n_v vs 13) + 0) ≤ 0 := f4
  obtain ⟨f5, hf⟩ := fc_un (show (23 : Nat) < 100 from by decide) hf
  have f5 : 1 * v_iv (n_v vs 3) + ((-1) * v_iv (n_v vs 15) + 0) ≤ (-1) := f5
  obtain ⟨f6, hf⟩ := fc_un (show (23 : Nat) < 100 from by decide) hf
  have f6 : (-1) * v_iv (n_v vs 9) + ((-1) * v_iv (n_v vs 15) + 0) ≤ (-2000) := f6
  obtain ⟨f7, hf⟩ := fc_un (show (23 : Nat) < 100 from by decide) hf
  have f7 : 1 * v_iv (n_v vs 3) + ((-1) * v_iv (n_v vs 13) + 0) ≤ (-1) := f7
  obtain ⟨f8, hf⟩ := fc_un (show (23 : Nat) < 100 from by decide) hf
  have f8 : (-1) * v_iv (n_v vs 9) + ((-1) * v_iv (n_v vs 13) + 0) ≤ (-2000) := f8
  obtain ⟨f9, hf⟩ := fc_un (show (24 : Nat) < 100 from by decide) hf
  have f9 : n_v vs 0 = n_v vs 5 := f9
  obtain ⟨f10, hf⟩ := fc_un (show (24 : Nat) < 100 from by decide) hf
  have f10 : n_v vs 2 = n_v vs 7 := f10
  obtain ⟨f11, hf⟩ := fc_un (show (20 : Nat) < 100 from by decide) hf
  have f11 : 1 * w_fi ws (n_v vs 5) 15 + ((-1) * w_fi ws (n_v vs 5) 11 + 0) ≤ 0 := f11
  obtain ⟨f12, hf⟩ := fc_un (show (20 : Nat) < 100 from by decide) hf
  have f12 : ((w_fi ws (n_v vs 5) 12 = 1) → (w_fi ws (n_v vs 5) 11 ≤ (w_fi ws (n_v vs 5) 15 + 8))) ∧ ((w_fi ws (n_v vs 5) 12 = 0) ∨ ((w_fi ws (n_v vs 5) 15 + 1) ≤ w_fi ws (n_v vs 5) 11)) := f12
  obtain ⟨f13, hf⟩ := fc_un (show (20 : Nat) < 100 from by decide) hf
  have f13 : 1 * v_iv (n_v vs 15) + ((-1) * w_fi ws (n_v vs 5) 11 + 0) ≤ 0 := f13
  obtain ⟨f14, hf⟩ := fc_un (show (20 : Nat) < 100 from by decide) hf
  have f14 : (-1) * w_fi ws (n_v vs 5) 8 + 0 ≤ (-1) := f14
  obtain ⟨ta1, w1, le1, ⟨_, s1⟩, hf⟩ := fc_us (show ¬ (102 : Nat) < 100 from by decide) hf
  obtain ⟨f16, hf⟩ := fc_un (show (23 : Nat) < 100 from by decide) hf
  have f16 : 1 * v_iv (n_v vs 15) + ((-1) * v_iv (n_v vs 13) + 0) ≤ 0 := f16
  obtain ⟨f17, hf⟩ := fc_un (show (23 : Nat) < 100 from by decide) hf
  have f17 : (-1) * v_iv (n_v vs 15) + (1 * v_iv (n_v vs 13) + 0) ≤ 0 := f17
  obtain ⟨f18, hf⟩ := fc_un (show (23 : Nat) < 100 from by decide) hf
  have f18 : 1 * v_iv (n_v vs 3) + ((-1) * v_iv (n_v vs 15) + 0) ≤ (-1) := f18
  obtain ⟨f19, hf⟩ := fc_un (show (23 : Nat) < 100 from by decide) hf
  have f19 : (-1) * v_iv (n_v vs 9) + ((-1) * v_iv (n_v vs 15) + 0) ≤ (-2000) := f19
  obtain ⟨f20, hf⟩ := fc_un (show (23 : Nat) < 100 from by decide) hf
  have f20 : 1 * v_iv (n_v vs 3) + ((-1) * v_iv (n_v vs 13) + 0) ≤ (-1) := f20
  obtain ⟨f21, hf⟩ := fc_un (show (23 : Nat) < 100 from by decide) hf
  have f21 : (-1) * v_iv (n_v vs 9) + ((-1) * v_iv (n_v vs 13) + 0) ≤ (-2000) := f21
  obtain ⟨ta2, w2, le2, ⟨_, s2⟩, hf⟩ := fc_us (show ¬ (102 : Nat) < 100 from by decide) hf
  obtain ⟨f23, hf⟩ := fc_un (show (23 : Nat) < 100 from by decide) hf
  have f23 : 1 * v_iv (n_v vs 15) + ((-1) * v_iv (n_v vs 13) + 0) ≤ 0 := f23
  obtain ⟨f24, hf⟩ := fc_un (show (23 : Nat) < 100 from by decide) hf
  have f24 : (-1) * v_iv (n_v vs 15) + (1 * v_iv (n_v vs 13) + 0) ≤ 0 := f24
  obtain ⟨f25, hf⟩ := fc_un (show (23 : Nat) < 100 from by decide) hf
  have f25 : 1 * v_iv (n_v vs 3) + ((-1) * v_iv (n_v vs 15) + 0) ≤ (-1) := f25
  obtain ⟨f26, hf⟩ := fc_un (show (23 : Nat) < 100 from by decide) hf
  have f26 : (-1) * v_iv (n_v vs 9) + ((-1) * v_iv (n_v vs 15) + 0) ≤ (-2000) := f26
  obtain ⟨f27, hf⟩ := fc_un (show (23 : Nat) < 100 from by decide) hf
  have f27 : 1 * v_iv (n_v vs 3) + ((-1) * v_iv (n_v vs 13) + 0) ≤ (-1) := f27
  obtain ⟨f28, hf⟩ := fc_un (show (23 : Nat) < 100 from by decide) hf
  have f28 : (-1) * v_iv (n_v vs 9) + ((-1) * v_iv (n_v vs 13) + 0) ≤ (-2000) := f28
  obtain ⟨ta3, w3, le3, ⟨_, s3⟩, hf⟩ := fc_us (show ¬ (102 : Nat) < 100 from by decide) hf
  obtain ⟨f30, hf⟩ := fc_un (show (23 : Nat) < 100 from by decide) hf
  have f30 : 1 * v_iv (n_v vs 3) + ((-1) * v_iv (n_v vs 13) + 0) ≤ (-1) := f30
  obtain ⟨f31, hf⟩ := fc_un (show (23 : Nat) < 100 from by decide) hf
  have f31 : (-1) * v_iv (n_v vs 9) + ((-1) * v_iv (n_v vs 13) + 0) ≤ (-2000) := f31
  have q5 : n_v vs 5 = n_v vs 0 := f9.symm
  have q7 : n_v vs 7 = n_v vs 2 := f10.symm
  rw [q5] at f1
  rw [q5] at f11
  rw [q5] at f12
  rw [q5] at f13
  rw [q5] at f14
  have g1 : v_iv (n_v vs 21) = w_fi ws (n_v vs 0) 8 := congrArg v_iv f1
  have kz_0_8 : 0 ≤ w_fi ws (n_v vs 0) 8 ∧ w_fi ws (n_v vs 0) 8 ≤ 5 := tv_rng (th_fd hD hth r0 (g := GG_150) rfl (k := 8) (t := (0, 0, 5, [])) rfl rfl)
  have kz_0_11 : 0 ≤ w_fi ws (n_v vs 0) 11 ∧ w_fi ws (n_v vs 0) 11 ≤ 2000 := tv_rng (th_fd hD hth r0 (g := GG_150) rfl (k := 11) (t := (0, 0, 2000, [])) rfl rfl)
  have kz_0_12 : 0 ≤ w_fi ws (n_v vs 0) 12 ∧ w_fi ws (n_v vs 0) 12 ≤ 4 := tv_rng (th_fd hD hth r0 (g := GG_150) rfl (k := 12) (t := (0, 0, 4, [])) rfl rfl)
  have kz_0_15 : 0 ≤ w_fi ws (n_v vs 0) 15 ∧ w_fi ws (n_v vs 0) 15 ≤ 2000 := tv_rng (th_fd hD hth r0 (g := GG_150) rfl (k := 15) (t := (0, 0, 2000, [])) rfl rfl)
  have kv0 : 0 ≤ w_fi ws (n_v vs 0) 11 ∧ w_fi ws (n_v vs 0) 11 ≤ 2000 := tv_rng (th_fd hD hth r0 (g := GG_150) rfl (k := 11) (t := (0, 0, 2000, [])) rfl rfl)
  obtain ⟨x, ex, hx⟩ := iv_ex (ta := ta) (lo := 0) (hi := 2000) (z := w_fi ws (n_v vs 0) 11) (by omega) (by omega) (by omega) (by omega)
  have ex2 : v_iv (Value.int x) = w_fi ws (n_v vs 0) 11 := ex
  have ex3 : 0 ≤ v_iv (Value.int x) ∧ v_iv (Value.int x) ≤ 2000 := tv_rng hx
  have e_3 : n_v (vs ++ [Value.int x]) 3 = n_v vs 3 := n_v_old (by rw [hl]; decide)
  have e_5 : n_v (vs ++ [Value.int x]) 5 = n_v vs 5 := n_v_old (by rw [hl]; decide)
  have e_9 : n_v (vs ++ [Value.int x]) 9 = n_v vs 9 := n_v_old (by rw [hl]; decide)
  have e_25 : n_v (vs ++ [Value.int x]) 25 = Value.int x := n_v_new hl
  have nf0 : fc_1 (20, [25, 5], [30, 0, 1, 0, 0, -1, 1, 11]) ws (vs ++ [Value.int x]) := by
    refine ⟨fun n hn => ?_, ?_⟩
    · have hn : n ∈ [25, 5] := hn
      rw [List.length_append, hl]
      simp only [List.mem_cons, List.not_mem_nil, or_false] at hn
      show n < 25 + 1; omega
    · show 1 * v_iv (n_v (vs ++ [Value.int x]) 25) + ((-1) * w_fi ws (n_v (vs ++ [Value.int x]) 5) 11 + 0) ≤ 0
      rw [e_5]
      rw [e_25]
      rw [q5]
      omega
  have nf1 : fc_1 (23, [3, 25], [-1, 1, -1]) ws (vs ++ [Value.int x]) := by
    refine ⟨fun n hn => ?_, ?_⟩
    · have hn : n ∈ [3, 25] := hn
      rw [List.length_append, hl]
      simp only [List.mem_cons, List.not_mem_nil, or_false] at hn
      show n < 25 + 1; omega
    · show 1 * v_iv (n_v (vs ++ [Value.int x]) 3) + ((-1) * v_iv (n_v (vs ++ [Value.int x]) 25) + 0) ≤ (-1)
      rw [e_3]
      rw [e_25]
      omega
  have nf2 : fc_1 (23, [9, 25], [-2001, -1, -1]) ws (vs ++ [Value.int x]) := by
    refine ⟨fun n hn => ?_, ?_⟩
    · have hn : n ∈ [9, 25] := hn
      rw [List.length_append, hl]
      simp only [List.mem_cons, List.not_mem_nil, or_false] at hn
      show n < 25 + 1; omega
    · show (-1) * v_iv (n_v (vs ++ [Value.int x]) 9) + ((-1) * v_iv (n_v (vs ++ [Value.int x]) 25) + 0) ≤ (-2001)
      rw [e_9]
      rw [e_25]
      omega
  exact ⟨(fun _ h => (by cases h)), [Value.int x], ag_one hx, List.forall_mem_cons.mpr ⟨⟨show (20 : Nat) < 100 from by decide, nf0⟩, List.forall_mem_cons.mpr ⟨⟨show (23 : Nat) < 100 from by decide, nf1⟩, List.forall_mem_cons.mpr ⟨⟨show (23 : Nat) < 100 from by decide, nf2⟩, (fun _ h => (by cases h))⟩⟩⟩, (fun _ h => (by cases h))⟩
def o_Mo_of_at_s5003_26 : or_T := (139, 26, [(0, (2, 0, 0, [150])), (2, (0, 9, 9, [])), (3, (0, 0, 2000, [])), (4, (0, -1, 48, [])), (5, (2, 0, 0, [150])), (7, (0, 9, 9, [])), (8, (0, -2147483648, 0, [])), (9, (0, 0, 2000, [])), (13, (0, 0, 2000, [])), (15, (0, 0, 2000, [])), (22, (0, 1, 9, [])), (25, (0, 0, 2000, []))], [(23, [3, 25], [-1, 1, -1]), (23, [9, 25], [-2001, -1, -1]), (23, [22, 7], [0, 1, -1]), (23, [22], [0, -1]), (23, [15, 13], [0, 1, -1]), (23, [15, 13], [0, -1, 1]), (23, [3, 15], [-1, 1, -1]), (23, [9, 15], [-2000, -1, -1]), (23, [3, 13], [-1, 1, -1]), (23, [9, 13], [-2000, -1, -1]), (23, [8, 7], [0, 1, -1]), (23, [8], [0, -1]), (23, [4], [0, -1]), (24, [0, 5], []), (24, [2, 7], []), (20, [5], [30, -1, -1, 1, 8]), (20, [5, 5], [30, 0, 1, 1, 15, -1, 1, 11]), (20, [5], [50, 3, 0, 12, 11, 15, 2, 21, 4, 7, 1, 3, 2, 0, 12, 0, 1, 0, 3, 2, 0, 11, 4, 3, 2, 0, 15, 0, 8, 3, 7, 1, 3, 2, 0, 12, 0, 0, 0, 7, 4, 3, 2, 0, 15, 0, 1, 2, 0, 11]), (20, [25, 5], [30, 0, 1, 0, 0, -1, 1, 15]), (102, [25], [0, 13011, 13012, 13013, 13014, 13015]), (23, [3, 25], [-1, 1, -1]), (23, [9, 25], [-2001, -1, -1]), (23, [22, 7], [0, 1, -1]), (23, [22], [0, -1]), (23, [15, 13], [0, 1, -1]), (23, [15, 13], [0, -1, 1]), (23, [3, 15], [-1, 1, -1]), (23, [9, 15], [-2000, -1, -1]), (23, [3, 13], [-1, 1, -1]), (23, [9, 13], [-2000, -1, -1]), (23, [8, 7], [0, 1, -1]), (23, [8], [0, -1]), (23, [4], [0, -1]), (102, [20], [0, 13008, 13009]), (23, [15, 13], [0, 1, -1]), (23, [15, 13], [0, -1, 1]), (23, [3, 15], [-1, 1, -1]), (23, [9, 15], [-2000, -1, -1]), (23, [3, 13], [-1, 1, -1]), (23, [9, 13], [-2000, -1, -1]), (23, [8, 7], [0, 1, -1]), (23, [8], [0, -1]), (23, [4], [0, -1]), (102, [15], [0, 13008, 13009, 13011, 13012, 13013, 13014, 13015]), (23, [15, 13], [0, 1, -1]), (23, [15, 13], [0, -1, 1]), (23, [3, 15], [-1, 1, -1]), (23, [9, 15], [-2000, -1, -1]), (23, [3, 13], [-1, 1, -1]), (23, [9, 13], [-2000, -1, -1]), (23, [8, 7], [0, 1, -1]), (23, [8], [0, -1]), (23, [4], [0, -1]), (102, [13], [0, 13011, 13012, 13013, 13014, 13015]), (23, [3, 13], [-1, 1, -1]), (23, [9, 13], [-2000, -1, -1]), (8, [8], [5]), (23, [8, 7], [0, 1, -1]), (23, [8], [0, -1]), (23, [4], [0, -1]), (102, [11], [0]), (23, [8, 7], [0, 1, -1]), (23, [8], [0, -1]), (23, [4], [0, -1])], [], [(0, 0, 2000, [])], [(20, [5, 5], [30, 0, 1, 1, 15, -1, 1, 11]), (20, [5], [50, 3, 0, 12, 11, 15, 2, 21, 4, 7, 1, 3, 2, 0, 12, 0, 1, 0, 3, 2, 0, 11, 4, 3, 2, 0, 15, 0, 8, 3, 7, 1, 3, 2, 0, 12, 0, 0, 0, 7, 4, 3, 2, 0, 15, 0, 1, 2, 0, 11]), (20, [3, 5], [30, -1, 1, 0, 0, -1, 1, 11]), (23, [22, 7], [0, 1, -1]), (23, [22], [0, -1]), (23, [4], [0, -1]), (20, [26, 5], [30, -2001, -1, 0, 0, -1, 1, 11]), (24, [0, 5], []), (24, [2, 7], [])], [(26, 9, 0, 0)], [(22, 7, -4294967296, 0), (2, 3, -4294967296, 9), (2, 4, -4294967296, 10), (2, 7, -4294967296, 0), (2, 8, -4294967296, 2147483657), (3, 2, -4294967296, 1991), (3, 4, -4294967296, 2001), (3, 7, -4294967296, 1991), (3, 8, -4294967296, 2147485648), (4, 2, -4294967296, 39), (4, 3, -4294967296, 48), (4, 7, -4294967296, 39), (4, 8, -4294967296, 2147483696), (7, 2, -4294967296, 0), (7, 3, -4294967296, 9), (7, 4, -4294967296, 10), (7, 8, -4294967296, 2147483657), (8, 2, -4294967296, 2147483638), (8, 3, -4294967296, 2147483647), (8, 4, -4294967296, 2147483648), (8, 7, -4294967296, 2147483638)])
theorem oo_Mo_of_at_s5003_26 {kA : Nat → ClassId} : or_ok kA GG o_Mo_of_at_s5003_26 := by
  intro A ta ws vs hD hth hl hk hds hf
  have hl : vs.length = 26 := hl
  have hk : ∀ q ∈ ([(0, (2, 0, 0, [150])), (2, (0, 9, 9, [])), (3, (0, 0, 2000, [])), (4, (0, -1, 48, [])), (5, (2, 0, 0, [150])), (7, (0, 9, 9, [])), (8, (0, -2147483648, 0, [])), (9, (0, 0, 2000, [])), (13, (0, 0, 2000, [])), (15, (0, 0, 2000, [])), (22, (0, 1, 9, [])), (25, (0, 0, 2000, []))] : List (Nat × tv_T)), tv_ok ta q.2 (n_v vs q.1) := hk
  obtain ⟨t0, hk⟩ := List.forall_mem_cons.mp hk
  have t0 : tv_ok ta (2, 0, 0, [150]) (n_v vs 0) := t0
  have r0 : ta (v_ad (n_v vs 0)) = some 150 := tv_rg t0
  obtain ⟨t2, hk⟩ := List.forall_mem_cons.mp hk
  have t2 : tv_ok ta (0, 9, 9, []) (n_v vs 2) := t2
  have k2 : 9 ≤ v_iv (n_v vs 2) ∧ v_iv (n_v vs 2) ≤ 9 := tv_rng t2
  obtain ⟨t3, hk⟩ := List.forall_mem_cons.mp hk
  have t3 : tv_ok ta (0, 0, 2000, []) (n_v vs 3) := t3
  have k3 : 0 ≤ v_iv (n_v vs 3) ∧ v_iv (n_v vs 3) ≤ 2000 := tv_rng t3
  obtain ⟨t4, hk⟩ := List.forall_mem_cons.mp hk
  have t4 : tv_ok ta (0, -1, 48, []) (n_v vs 4) := t4
  have k4 : (-1) ≤ v_iv (n_v vs 4) ∧ v_iv (n_v vs 4) ≤ 48 := tv_rng t4
  obtain ⟨t5, hk⟩ := List.forall_mem_cons.mp hk
  have t5 : tv_ok ta (2, 0, 0, [150]) (n_v vs 5) := t5
  have r5 : ta (v_ad (n_v vs 5)) = some 150 := tv_rg t5
  obtain ⟨t7, hk⟩ := List.forall_mem_cons.mp hk
  have t7 : tv_ok ta (0, 9, 9, []) (n_v vs 7) := t7
  have k7 : 9 ≤ v_iv (n_v vs 7) ∧ v_iv (n_v vs 7) ≤ 9 := tv_rng t7
  obtain ⟨t8, hk⟩ := List.forall_mem_cons.mp hk
  have t8 : tv_ok ta (0, -2147483648, 0, []) (n_v vs 8) := t8
  have k8 : (-2147483648) ≤ v_iv (n_v vs 8) ∧ v_iv (n_v vs 8) ≤ 0 := tv_rng t8
  obtain ⟨t9, hk⟩ := List.forall_mem_cons.mp hk
  have t9 : tv_ok ta (0, 0, 2000, []) (n_v vs 9) := t9
  have k9 : 0 ≤ v_iv (n_v vs 9) ∧ v_iv (n_v vs 9) ≤ 2000 := tv_rng t9
  obtain ⟨t13, hk⟩ := List.forall_mem_cons.mp hk
  have t13 : tv_ok ta (0, 0, 2000, []) (n_v vs 13) := t13
  have k13 : 0 ≤ v_iv (n_v vs 13) ∧ v_iv (n_v vs 13) ≤ 2000 := tv_rng t13
  obtain ⟨t15, hk⟩ := List.forall_mem_cons.mp hk
  have t15 : tv_ok ta (0, 0, 2000, []) (n_v vs 15) := t15
  have k15 : 0 ≤ v_iv (n_v vs 15) ∧ v_iv (n_v vs 15) ≤ 2000 := tv_rng t15
  obtain ⟨t22, hk⟩ := List.forall_mem_cons.mp hk
  have t22 : tv_ok ta (0, 1, 9, []) (n_v vs 22) := t22
  have k22 : 1 ≤ v_iv (n_v vs 22) ∧ v_iv (n_v vs 22) ≤ 9 := tv_rng t22
  obtain ⟨t25, hk⟩ := List.forall_mem_cons.mp hk
  have t25 : tv_ok ta (0, 0, 2000, []) (n_v vs 25) := t25
  have k25 : 0 ≤ v_iv (n_v vs 25) ∧ v_iv (n_v vs 25) ≤ 2000 := tv_rng t25
  have hds : ∀ q ∈ ([(22, 7, -4294967296, 0), (2, 3, -4294967296, 9), (2, 4, -4294967296, 10), (2, 7, -4294967296, 0), (2, 8, -4294967296, 2147483657), (3, 2, -4294967296, 1991), (3, 4, -4294967296, 2001), (3, 7, -4294967296, 1991), (3, 8, -4294967296, 2147485648), (4, 2, -4294967296, 39), (4, 3, -4294967296, 48), (4, 7, -4294967296, 39), (4, 8, -4294967296, 2147483696), (7, 2, -4294967296, 0), (7, 3, -4294967296, 9), (7, 4, -4294967296, 10), (7, 8, -4294967296, 2147483657), (8, 2, -4294967296, 2147483638), (8, 3, -4294967296, 2147483647), (8, 4, -4294967296, 2147483648), (8, 7, -4294967296, 2147483638)] : List of_T), n_iv vs q.2.1 + q.2.2.1 ≤ n_iv vs q.1 ∧ n_iv vs q.1 ≤ n_iv vs q.2.1 + q.2.2.2 := hds
  obtain ⟨d0, hds⟩ := List.forall_mem_cons.mp hds
  have d0 : v_iv (n_v vs 7) + (-4294967296) ≤ v_iv (n_v vs 22) ∧ v_iv (n_v vs 22) ≤ v_iv (n_v vs 7) + 0 := d0
  obtain ⟨d1, hds⟩ := List.forall_mem_cons.mp hds
  have d1 : v_iv (n_v vs 3) + (-4294967296) ≤ v_iv (n_v vs 2) ∧ v_iv (n_v vs 2) ≤ v_iv (n_v vs 3) + 9 := d1
  obtain ⟨d2, hds⟩ := List.forall_mem_cons.mp hds
  have d2 : v_iv (n_v vs 4) + (-4294967296) ≤ v_iv (n_v vs 2) ∧ v_iv (n_v vs 2) ≤ v_iv (n_v vs 4) + 10 := d2
  obtain ⟨d3, hds⟩ := List.forall_mem_cons.mp hds
  have d3 : v_iv (n_v vs 7) + (-4294967296) ≤ v_iv (n_v vs 2) ∧ v_iv (n_v vs 2) ≤ v_iv (n_v vs 7) + 0 := d3
  obtain ⟨d4, hds⟩ := List.forall_mem_cons.mp hds
  have d4 : v_iv (n_v vs 8) + (-4294967296) ≤ v_iv (n_v vs 2) ∧ v_iv (n_v vs 2) ≤ v_iv (n_v vs 8) + 2147483657 := d4
  obtain ⟨d5, hds⟩ := List.forall_mem_cons.mp hds
  have d5 : v_iv (n_v vs 2) + (-4294967296) ≤ v_iv (n_v vs 3) ∧ v_iv (n_v vs 3) ≤ v_iv (n_v vs 2) + 1991 := d5
  obtain ⟨d6, hds⟩ := List.forall_mem_cons.mp hds
  have d6 : v_iv (n_v vs 4) + (-4294967296) ≤ v_iv (n_v vs 3) ∧ v_iv (n_v vs 3) ≤ v_iv (n_v vs 4) + 2001 := d6
  obtain ⟨d7, hds⟩ := List.forall_mem_cons.mp hds
  have d7 : v_iv (n_v vs 7) + (-4294967296) ≤ v_iv (n_v vs 3) ∧ v_iv (n_v vs 3) ≤ v_iv (n_v vs 7) + 1991 := d7
  obtain ⟨d8, hds⟩ := List.forall_mem_cons.mp hds
  have d8 : v_iv (n_v vs 8) + (-4294967296) ≤ v_iv (n_v vs 3) ∧ v_iv (n_v vs 3) ≤ v_iv (n_v vs 8) + 2147485648 := d8
  obtain ⟨d9, hds⟩ := List.forall_mem_cons.mp hds
  have d9 : v_iv (n_v vs 2) + (-4294967296) ≤ v_iv (n_v vs 4) ∧ v_iv (n_v vs 4) ≤ v_iv (n_v vs 2) + 39 := d9
  obtain ⟨d10, hds⟩ := List.forall_mem_cons.mp hds
  have d10 : v_iv (n_v vs 3) + (-4294967296) ≤ v_iv (n_v vs 4) ∧ v_iv (n_v vs 4) ≤ v_iv (n_v vs 3) + 48 := d10
  obtain ⟨d11, hds⟩ := List.forall_mem_cons.mp hds
  have d11 : v_iv (n_v vs 7) + (-4294967296) ≤ v_iv (n_v vs 4) ∧ v_iv (n_v vs 4) ≤ v_iv (n_v vs 7) + 39 := d11
  obtain ⟨d12, hds⟩ := List.forall_mem_cons.mp hds
  have d12 : v_iv (n_v vs 8) + (-4294967296) ≤ v_iv (n_v vs 4) ∧ v_iv (n_v vs 4) ≤ v_iv (n_v vs 8) + 2147483696 := d12
  obtain ⟨d13, hds⟩ := List.forall_mem_cons.mp hds
  have d13 : v_iv (n_v vs 2) + (-4294967296) ≤ v_iv (n_v vs 7) ∧ v_iv (n_v vs 7) ≤ v_iv (n_v vs 2) + 0 := d13
  obtain ⟨d14, hds⟩ := List.forall_mem_cons.mp hds
  have d14 : v_iv (n_v vs 3) + (-4294967296) ≤ v_iv (n_v vs 7) ∧ v_iv (n_v vs 7) ≤ v_iv (n_v vs 3) + 9 := d14
  obtain ⟨d15, hds⟩ := List.forall_mem_cons.mp hds
  have d15 : v_iv (n_v vs 4) + (-4294967296) ≤ v_iv (n_v vs 7) ∧ v_iv (n_v vs 7) ≤ v_iv (n_v vs 4) + 10 := d15
  obtain ⟨d16, hds⟩ := List.forall_mem_cons.mp hds
  have d16 : v_iv (n_v vs 8) + (-4294967296) ≤ v_iv (n_v vs 7) ∧ v_iv (n_v vs 7) ≤ v_iv (n_v vs 8) + 2147483657 := d16
  obtain ⟨d17, hds⟩ := List.forall_mem_cons.mp hds
  have d17 : v_iv (n_v vs 2) + (-4294967296) ≤ v_iv (n_v vs 8) ∧ v_iv (n_v vs 8) ≤ v_iv (n_v vs 2) + 2147483638 := d17
  obtain ⟨d18, hds⟩ := List.forall_mem_cons.mp hds
  have d18 : v_iv (n_v vs 3) + (-4294967296) ≤ v_iv (n_v vs 8) ∧ v_iv (n_v vs 8) ≤ v_iv (n_v vs 3) + 2147483647 := d18
  obtain ⟨d19, hds⟩ := List.forall_mem_cons.mp hds
  have d19 : v_iv (n_v vs 4) + (-4294967296) ≤ v_iv (n_v vs 8) ∧ v_iv (n_v vs 8) ≤ v_iv (n_v vs 4) + 2147483648 := d19
  obtain ⟨d20, hds⟩ := List.forall_mem_cons.mp hds
  have d20 : v_iv (n_v vs 7) + (-4294967296) ≤ v_iv (n_v vs 8) ∧ v_iv (n_v vs 8) ≤ v_iv (n_v vs 7) + 2147483638 := d20
  have hf : fc_ok [(23, [3, 25], [-1, 1, -1]), (23, [9, 25], [-2001, -1, -1]), (23, [22, 7], [0, 1, -1]), (23, [22], [0, -1]), (23, [15, 13], [0, 1, -1]), (23, [15, 13], [0, -1, 1]), (23, [3, 15], [-1, 1, -1]), (23, [9, 15], [-2000, -1, -1]), (23, [3, 13], [-1, 1, -1]), (23, [9, 13], [-2000, -1, -1]), (23, [8, 7], [0, 1, -1]), (23, [8], [0, -1]), (23, [4], [0, -1]), (24, [0, 5], []), (24, [2, 7], []), (20, [5], [30, -1, -1, 1, 8]), (20, [5, 5], [30, 0, 1, 1, 15, -1, 1, 11]), (20, [5], [50, 3, 0, 12, 11, 15, 2, 21, 4, 7, 1, 3, 2, 0, 12, 0, 1, 0, 3, 2, 0, 11, 4, 3, 2, 0, 15, 0, 8, 3, 7, 1, 3, 2, 0, 12, 0, 0, 0, 7, 4, 3, 2, 0, 15, 0, 1, 2, 0, 11]), (20, [25, 5], [30, 0, 1, 0, 0, -1, 1, 15]), (102, [25], [0, 13011, 13012, 13013, 13014, 13015]), (23, [3, 25], [-1, 1, -1]), (23, [9, 25], [-2001, -1, -1]), (23, [22, 7], [0, 1, -1]), (23, [22], [0, -1]), (23, [15, 13], [0, 1, -1]), (23, [15, 13], [0, -1, 1]), (23, [3, 15], [-1, 1, -1]), (23, [9, 15], [-2000, -1, -1]), (23, [3, 13], [-1, 1, -1]), (23, [9, 13], [-2000, -1, -1]), (23, [8, 7], [0, 1, -1]), (23, [8], [0, -1]), (23, [4], [0, -1]), (102, [20], [0, 13008, 13009]), (23, [15, 13], [0, 1, -1]), (23, [15, 13], [0, -1, 1]), (23, [3, 15], [-1, 1, -1]), (23, [9, 15], [-2000, -1, -1]), (23, [3, 13], [-1, 1, -1]), (23, [9, 13], [-2000, -1, -1]), (23, [8, 7], [0, 1, -1]), (23, [8], [0, -1]), (23, [4], [0, -1]), (102, [15], [0, 13008, 13009, 13011, 13012, 13013, 13014, 13015]), (23, [15, 13], [0, 1, -1]), (23, [15, 13], [0, -1, 1]), (23, [3, 15], [-1, 1, -1]), (23, [9, 15], [-2000, -1, -1]), (23, [3, 13], [-1, 1, -1]), (23, [9, 13], [-2000, -1, -1]), (23, [8, 7], [0, 1, -1]), (23, [8], [0, -1]), (23, [4], [0, -1]), (102, [13], [0, 13011, 13012, 13013, 13014, 13015]), (23, [3, 13], [-1, 1, -1]), (23, [9, 13], [-2000, -1, -1]), (8, [8], [5]), (23, [8, 7], [0, 1, -1]), (23, [8], [0, -1]), (23, [4], [0, -1]), (102, [11], [0]), (23, [8, 7], [0, 1, -1]), (23, [8], [0, -1]), (23, [4], [0, -1])] ta ws vs := hf
  obtain ⟨f0, hf⟩ := fc_un (show (23 : Nat) < 100 from by decide) hf
  have f0 : 1 * v_iv (n_v vs 3) + ((-1) * v_iv (n_v vs 25) + 0) ≤ (-1) := f0
  obtain ⟨f1, hf⟩ := fc_un (show (23 : Nat) < 100 from by decide) hf
  have f1 : (-1) * v_iv (n_v vs 9) + ((-1) * v_iv (n_v vs 25) + 0) ≤ (-2001) := f1
  obtain ⟨f2, hf⟩ := fc_un (show (23 : Nat) < 100 from by decide) hf
  have f2 : 1 * v_iv (n_v vs 22) + ((-1) * v_iv (n_v vs 7) + 0) ≤ 0 := f2
  obtain ⟨f3, hf⟩ := fc_un (show (23 : Nat) < 100 from by decide) hf
  have f3 : (-1) * v_iv (n_v vs 22) + 0 ≤ 0 := f3
  obtain ⟨f4, hf⟩ := fc_un (show (23 : Nat) < 100 from by decide) hf
  have f4 : 1 * v_iv (n_v vs 15) + ((-1) * v_iv (n_v vs 13) + 0) ≤ 0 := f4
  obtain ⟨f5, hf⟩ := fc_un (show (23 : Nat) < 100 from by decide) hf
  have f5 : (-1) * v_iv (n_v vs 15) + (1 * v_iv (n_v vs 13) + 0) ≤ 0 := f5
  obtain ⟨f6, hf⟩ := fc_un (show (23 : Nat) < 100 from by decide) hf
  have f6 : 1 * v_iv (n_v vs 3) + ((-1) * v_iv (n_v vs 15) + 0) ≤ (-1) := f6
  obtain ⟨f7, hf⟩ := fc_un (show (23 : Nat) < 100 from by decide) hf
  have f7 : (-1) * v_iv (n_v vs 9) + ((-1) * v_iv (n_v vs 15) + 0) ≤ (-2000) := f7
  obtain ⟨f8, hf⟩ := fc_un (show (23 : Nat) < 100 from by decide) hf
  have f8 : 1 * v_iv (n_v vs 3) + ((-1) * v_iv (n_v vs 13) + 0) ≤ (-1) := f8
  obtain ⟨f9, hf⟩ := fc_un (show (23 : Nat) < 100 from by decide) hf
  have f9 : (-1) * v_iv (n_v vs 9) + ((-1) * v_iv (n_v vs 13) + 0) ≤ (-2000) := f9
  obtain ⟨f10, hf⟩ := fc_un (show (23 : Nat) < 100 from by decide) hf
  have f10 : 1 * v_iv (n_v vs 8) + ((-1) * v_iv (n_v vs 7) + 0) ≤ 0 := f10
  obtain ⟨f11, hf⟩ := fc_un (show (23 : Nat) < 100 from by decide) hf
  have f11 : (-1) * v_iv (n_v vs 8) + 0 ≤ 0 := f11
  obtain ⟨f12, hf⟩ := fc_un (show (23 : Nat) < 100 from by decide) hf
  have f12 : (-1) * v_iv (n_v vs 4) + 0 ≤ 0 := f12
  obtain ⟨f13, hf⟩ := fc_un (show (24 : Nat) < 100 from by decide) hf
  have f13 : n_v vs 0 = n_v vs 5 := f13
  obtain ⟨f14, hf⟩ := fc_un (show (24 : Nat) < 100 from by decide) hf
  have f14 : n_v vs 2 = n_v vs 7 := f14
  obtain ⟨f15, hf⟩ := fc_un (show (20 : Nat) < 100 from by decide) hf
  have f15 : (-1) * w_fi ws (n_v vs 5) 8 + 0 ≤ (-1) := f15
  obtain ⟨f16, hf⟩ := fc_un (show (20 : Nat) < 100 from by decide) hf
  have f16 : 1 * w_fi ws (n_v vs 5) 15 + ((-1) * w_fi ws (n_v vs 5) 11 + 0) ≤ 0 := f16
  obtain ⟨f17, hf⟩ := fc_un (show (20 : Nat) < 100 from by decide) hf
  have f17 : ((w_fi ws (n_v vs 5) 12 = 1) → (w_fi ws (n_v vs 5) 11 ≤ (w_fi ws (n_v vs 5) 15 + 8))) ∧ ((w_fi ws (n_v vs 5) 12 = 0) ∨ ((w_fi ws (n_v vs 5) 15 + 1) ≤ w_fi ws (n_v vs 5) 11)) := f17
  obtain ⟨f18, hf⟩ := fc_un (show (20 : Nat) < 100 from by decide) hf
  have f18 : 1 * v_iv (n_v vs 25) + ((-1) * w_fi ws (n_v vs 5) 15 + 0) ≤ 0 := f18
  obtain ⟨ta1, w1, le1, ⟨_, s1⟩, hf⟩ := fc_us (show ¬ (102 : Nat) < 100 from by decide) hf
  obtain ⟨f20, hf⟩ := fc_un (show (23 : Nat) < 100 from by decide) hf
  have f20 : 1 * v_iv (n_v vs 3) + ((-1) * v_iv (n_v vs 25) + 0) ≤ (-1) := f20
  obtain ⟨f21, hf⟩ := fc_un (show (23 : Nat) < 100 from by decide) hf
  have f21 : (-1) * v_iv (n_v vs 9) + ((-1) * v_iv (n_v vs 25) + 0) ≤ (-2001) := f21
  obtain ⟨f22, hf⟩ := fc_un (show (23 : Nat) < 100 from by decide) hf
  have f22 : 1 * v_iv (n_v vs 22) + ((-1) * v_iv (n_v vs 7) + 0) ≤ 0 := f22
  obtain ⟨f23, hf⟩ := fc_un (show (23 : Nat) < 100 from by decide) hf
  have f23 : (-1) * v_iv (n_v vs 22) + 0 ≤ 0 := f23
  obtain ⟨f24, hf⟩ := fc_un (show (23 : Nat) < 100 from by decide) hf
  have f24 : 1 * v_iv (n_v vs 15) + ((-1) * v_iv (n_v vs 13) + 0) ≤ 0 := f24
  obtain ⟨f25, hf⟩ := fc_un (show (23 : Nat) < 100 from by decide) hf
  have f25 : (-1) * v_iv (n_v vs 15) + (1 * v_iv (n_v vs 13) + 0) ≤ 0 := f25
  obtain ⟨f26, hf⟩ := fc_un (show (23 : Nat) < 100 from by decide) hf
  have f26 : 1 * v_iv (n_v vs 3) + ((-1) * v_iv (n_v vs 15) + 0) ≤ (-1) := f26
  obtain ⟨f27, hf⟩ := fc_un (show (23 : Nat) < 100 from by decide) hf
  have f27 : (-1) * v_iv (n_v vs 9) + ((-1) * v_iv (n_v vs 15) + 0) ≤ (-2000) := f27
  obtain ⟨f28, hf⟩ := fc_un (show (23 : Nat) < 100 from by decide) hf
  have f28 : 1 * v_iv (n_v vs 3) + ((-1) * v_iv (n_v vs 13) + 0) ≤ (-1) := f28
  obtain ⟨f29, hf⟩ := fc_un (show (23 : Nat) < 100 from by decide) hf
  have f29 : (-1) * v_iv (n_v vs 9) + ((-1) * v_iv (n_v vs 13) + 0) ≤ (-2000) := f29
  obtain ⟨f30, hf⟩ := fc_un (show (23 : Nat) < 100 from by decide) hf
  have f30 : 1 * v_iv (n_v vs 8) + ((-1) * v_iv (n_v vs 7) + 0) ≤ 0 := f30
  obtain ⟨f31, hf⟩ := fc_un (show (23 : Nat) < 100 from by decide) hf
  have f31 : (-1) * v_iv (n_v vs 8) + 0 ≤ 0 := f31
  obtain ⟨f32, hf⟩ := fc_un (show (23 : Nat) < 100 from by decide) hf
  have f32 : (-1) * v_iv (n_v vs 4) + 0 ≤ 0 := f32
  obtain ⟨ta2, w2, le2, ⟨_, s2⟩, hf⟩ := fc_us (show ¬ (102 : Nat) < 100 from by decide) hf
  obtain ⟨f34, hf⟩ := fc_un (show (23 : Nat) < 100 from by decide) hf
  have f34 : 1 * v_iv (n_v vs 15) + ((-1) * v_iv (n_v vs 13) + 0) ≤ 0 := f34
  obtain ⟨f35, hf⟩ := fc_un (show (23 : Nat) < 100 from by decide) hf
  have f35 : (-1) * v_iv (n_v vs 15) + (1 * v_iv (n_v vs 13) + 0) ≤ 0 := f35
  obtain ⟨f36, hf⟩ := fc_un (show (23 : Nat) < 100 from by decide) hf
  have f36 : 1 * v_iv (n_v vs 3) + ((-1) * v_iv (n_v vs 15) + 0) ≤ (-1) := f36
  obtain ⟨f37, hf⟩ := fc_un (show (23 : Nat) < 100 from by decide) hf
  have f37 : (-1) * v_iv (n_v vs 9) + ((-1) * v_iv (n_v vs 15) + 0) ≤ (-2000) := f37
  obtain ⟨f38, hf⟩ := fc_un (show (23 : Nat) < 100 from by decide) hf
  have f38 : 1 * v_iv (n_v vs 3) + ((-1) * v_iv (n_v vs 13) + 0) ≤ (-1) := f38
  obtain ⟨f39, hf⟩ := fc_un (show (23 : Nat) < 100 from by decide) hf
  have f39 : (-1) * v_iv (n_v vs 9) + ((-1) * v_iv (n_v vs 13) + 0) ≤ (-2000) := f39
  obtain ⟨f40, hf⟩ := fc_un (show (23 : Nat) < 100 from by decide) hf
  have f40 : 1 * v_iv (n_v vs 8) + ((-1) * v_iv (n_v vs 7) + 0) ≤ 0 := f40
  obtain ⟨f41, hf⟩ := fc_un (show (23 : Nat) < 100 from by decide) hf
  have f41 : (-1) * v_iv (n_v vs 8) + 0 ≤ 0 := f41
  obtain ⟨f42, hf⟩ := fc_un (show (23 : Nat) < 100 from by decide) hf
  have f42 : (-1) * v_iv (n_v vs 4) + 0 ≤ 0 := f42
  obtain ⟨ta3, w3, le3, ⟨_, s3⟩, hf⟩ := fc_us (show ¬ (102 : Nat) < 100 from by decide) hf
  obtain ⟨f44, hf⟩ := fc_un (show (23 : Nat) < 100 from by decide) hf
  have f44 : 1 * v_iv (n_v vs 15) + ((-1) * v_iv (n_v vs 13) + 0) ≤ 0 := f44
  obtain ⟨f45, hf⟩ := fc_un (show (23 : Nat) < 100 from by decide) hf
  have f45 : (-1) * v_iv (n_v vs 15) + (1 * v_iv (n_v vs 13) + 0) ≤ 0 := f45
  obtain ⟨f46, hf⟩ := fc_un (show (23 : Nat) < 100 from by decide) hf
  have f46 : 1 * v_iv (n_v vs 3) + ((-1) * v_iv (n_v vs 15) + 0) ≤ (-1) := f46
  obtain ⟨f47, hf⟩ := fc_un (show (23 : Nat) < 100 from by decide) hf
  have f47 : (-1) * v_iv (n_v vs 9) + ((-1) * v_iv (n_v vs 15) + 0) ≤ (-2000) := f47
  obtain ⟨f48, hf⟩ := fc_un (show (23 : Nat) < 100 from by decide) hf
  have f48 : 1 * v_iv (n_v vs 3) + ((-1) * v_iv (n_v vs 13) + 0) ≤ (-1) := f48
  obtain ⟨f49, hf⟩ := fc_un (show (23 : Nat) < 100 from by decide) hf
  have f49 : (-1) * v_iv (n_v vs 9) + ((-1) * v_iv (n_v vs 13) + 0) ≤ (-2000) := f49
  obtain ⟨f50, hf⟩ := fc_un (show (23 : Nat) < 100 from by decide) hf
  have f50 : 1 * v_iv (n_v vs 8) + ((-1) * v_iv (n_v vs 7) + 0) ≤ 0 := f50
  obtain ⟨f51, hf⟩ := fc_un (show (23 : Nat) < 100 from by decide) hf
  have f51 : (-1) * v_iv (n_v vs 8) + 0 ≤ 0 := f51
  obtain ⟨f52, hf⟩ := fc_un (show (23 : Nat) < 100 from by decide) hf
  have f52 : (-1) * v_iv (n_v vs 4) + 0 ≤ 0 := f52
  obtain ⟨ta4, w4, le4, ⟨_, s4⟩, hf⟩ := fc_us (show ¬ (102 : Nat) < 100 from by decide) hf
  obtain ⟨f54, hf⟩ := fc_un (show (23 : Nat) < 100 from by decide) hf
  have f54 : 1 * v_iv (n_v vs 3) + ((-1) * v_iv (n_v vs 13) + 0) ≤ (-1) := f54
  obtain ⟨f55, hf⟩ := fc_un (show (23 : Nat) < 100 from by decide) hf
  have f55 : (-1) * v_iv (n_v vs 9) + ((-1) * v_iv (n_v vs 13) + 0) ≤ (-2000) := f55
  obtain ⟨f56, hf⟩ := fc_un (show (8 : Nat) < 100 from by decide) hf
  have f56 : v_iv (n_v vs 8) ≤ 0 := f56
  obtain ⟨f57, hf⟩ := fc_un (show (23 : Nat) < 100 from by decide) hf
  have f57 : 1 * v_iv (n_v vs 8) + ((-1) * v_iv (n_v vs 7) + 0) ≤ 0 := f57
  obtain ⟨f58, hf⟩ := fc_un (show (23 : Nat) < 100 from by decide) hf
  have f58 : (-1) * v_iv (n_v vs 8) + 0 ≤ 0 := f58
  obtain ⟨f59, hf⟩ := fc_un (show (23 : Nat) < 100 from by decide) hf
  have f59 : (-1) * v_iv (n_v vs 4) + 0 ≤ 0 := f59
  obtain ⟨ta5, w5, le5, ⟨_, s5⟩, hf⟩ := fc_us (show ¬ (102 : Nat) < 100 from by decide) hf
  obtain ⟨f61, hf⟩ := fc_un (show (23 : Nat) < 100 from by decide) hf
  have f61 : 1 * v_iv (n_v vs 8) + ((-1) * v_iv (n_v vs 7) + 0) ≤ 0 := f61
  obtain ⟨f62, hf⟩ := fc_un (show (23 : Nat) < 100 from by decide) hf
  have f62 : (-1) * v_iv (n_v vs 8) + 0 ≤ 0 := f62
  obtain ⟨f63, hf⟩ := fc_un (show (23 : Nat) < 100 from by decide) hf
  have f63 : (-1) * v_iv (n_v vs 4) + 0 ≤ 0 := f63
  have q5 : n_v vs 5 = n_v vs 0 := f13.symm
  have q7 : n_v vs 7 = n_v vs 2 := f14.symm
  rw [q7] at f2
  rw [q7] at f10
  rw [q5] at f15
  rw [q5] at f16
  rw [q5] at f17
  rw [q5] at f18
  rw [q7] at f22
  rw [q7] at f30
  rw [q7] at f40
  rw [q7] at f50
  rw [q7] at f57
  rw [q7] at f61
  have kz_0_8 : 0 ≤ w_fi ws (n_v vs 0) 8 ∧ w_fi ws (n_v vs 0) 8 ≤ 5 := tv_rng (th_fd hD hth r0 (g := GG_150) rfl (k := 8) (t := (0, 0, 5, [])) rfl rfl)
  have kz_0_11 : 0 ≤ w_fi ws (n_v vs 0) 11 ∧ w_fi ws (n_v vs 0) 11 ≤ 2000 := tv_rng (th_fd hD hth r0 (g := GG_150) rfl (k := 11) (t := (0, 0, 2000, [])) rfl rfl)
  have kz_0_12 : 0 ≤ w_fi ws (n_v vs 0) 12 ∧ w_fi ws (n_v vs 0) 12 ≤ 4 := tv_rng (th_fd hD hth r0 (g := GG_150) rfl (k := 12) (t := (0, 0, 4, [])) rfl rfl)
  have kz_0_15 : 0 ≤ w_fi ws (n_v vs 0) 15 ∧ w_fi ws (n_v vs 0) 15 ≤ 2000 := tv_rng (th_fd hD hth r0 (g := GG_150) rfl (k := 15) (t := (0, 0, 2000, [])) rfl rfl)
  obtain ⟨x, ex, hx⟩ := iv_ex (ta := ta) (lo := 0) (hi := 2000) (z := 0 + (1 * v_iv (n_v vs 9) + 0)) (by omega) (by omega) (by omega) (by omega)
  have ex2 : v_iv (Value.int x) = 0 + (1 * v_iv (n_v vs 9) + 0) := ex
  have ex3 : 0 ≤ v_iv (Value.int x) ∧ v_iv (Value.int x) ≤ 2000 := tv_rng hx
  have e_0 : n_v (vs ++ [Value.int x]) 0 = n_v vs 0 := n_v_old (by rw [hl]; decide)
  have e_2 : n_v (vs ++ [Value.int x]) 2 = n_v vs 2 := n_v_old (by rw [hl]; decide)
  have e_3 : n_v (vs ++ [Value.int x]) 3 = n_v vs 3 := n_v_old (by rw [hl]; decide)
  have e_4 : n_v (vs ++ [Value.int x]) 4 = n_v vs 4 := n_v_old (by rw [hl]; decide)
  have e_5 : n_v (vs ++ [Value.int x]) 5 = n_v vs 5 := n_v_old (by rw [hl]; decide)
  have e_7 : n_v (vs ++ [Value.int x]) 7 = n_v vs 7 := n_v_old (by rw [hl]; decide)
  have e_22 : n_v (vs ++ [Value.int x]) 22 = n_v vs 22 := n_v_old (by rw [hl]; decide)
  have e_26 : n_v (vs ++ [Value.int x]) 26 = Value.int x := n_v_new hl
  have nf0 : fc_1 (20, [5, 5], [30, 0, 1, 1, 15, -1, 1, 11]) ws (vs ++ [Value.int x]) := by
    refine ⟨fun n hn => ?_, ?_⟩
    · have hn : n ∈ [5, 5] := hn
      rw [List.length_append, hl]
      simp only [List.mem_cons, List.not_mem_nil, or_false] at hn
      show n < 26 + 1; omega
    · show 1 * w_fi ws (n_v (vs ++ [Value.int x]) 5) 15 + ((-1) * w_fi ws (n_v (vs ++ [Value.int x]) 5) 11 + 0) ≤ 0
      rw [e_5]
      rw [q5]
      omega
  have nf1 : fc_1 (20, [5], [50, 3, 0, 12, 11, 15, 2, 21, 4, 7, 1, 3, 2, 0, 12, 0, 1, 0, 3, 2, 0, 11, 4, 3, 2, 0, 15, 0, 8, 3, 7, 1, 3, 2, 0, 12, 0, 0, 0, 7, 4, 3, 2, 0, 15, 0, 1, 2, 0, 11]) ws (vs ++ [Value.int x]) := by
    refine ⟨fun n hn => ?_, ?_⟩
    · have hn : n ∈ [5] := hn
      rw [List.length_append, hl]
      simp only [List.mem_cons, List.not_mem_nil, or_false] at hn
      show n < 26 + 1; omega
    · show ((w_fi ws (n_v (vs ++ [Value.int x]) 5) 12 = 1) → (w_fi ws (n_v (vs ++ [Value.int x]) 5) 11 ≤ (w_fi ws (n_v (vs ++ [Value.int x]) 5) 15 + 8))) ∧ ((w_fi ws (n_v (vs ++ [Value.int x]) 5) 12 = 0) ∨ ((w_fi ws (n_v (vs ++ [Value.int x]) 5) 15 + 1) ≤ w_fi ws (n_v (vs ++ [Value.int x]) 5) 11))
      rw [e_5]
      rw [q5]
      first | omega | grind
  have nf2 : fc_1 (20, [3, 5], [30, -1, 1, 0, 0, -1, 1, 11]) ws (vs ++ [Value.int x]) := by
    refine ⟨fun n hn => ?_, ?_⟩
    · have hn : n ∈ [3, 5] := hn
      rw [List.length_append, hl]
      simp only [List.mem_cons, List.not_mem_nil, or_false] at hn
      show n < 26 + 1; omega
    · show 1 * v_iv (n_v (vs ++ [Value.int x]) 3) + ((-1) * w_fi ws (n_v (vs ++ [Value.int x]) 5) 11 + 0) ≤ (-1)
      rw [e_3]
      rw [e_5]
      rw [q5]
      omega
  have nf3 : fc_1 (23, [22, 7], [0, 1, -1]) ws (vs ++ [Value.int x]) := by
    refine ⟨fun n hn => ?_, ?_⟩
    · have hn : n ∈ [22, 7] := hn
      rw [List.length_append, hl]
      simp only [List.mem_cons, List.not_mem_nil, or_false] at hn
      show n < 26 + 1; omega
    · show 1 * v_iv (n_v (vs ++ [Value.int x]) 22) + ((-1) * v_iv (n_v (vs ++ [Value.int x]) 7) + 0) ≤ 0
      rw [e_7]
      rw [e_22]
      rw [q7]
      omega
  have nf4 : fc_1 (23, [22], [0, -1]) ws (vs ++ [Value.int x]) := by
    refine ⟨fun n hn => ?_, ?_⟩
    · have hn : n ∈ [22] := hn
      rw [List.length_append, hl]
      simp only [List.mem_cons, List.not_mem_nil, or_false] at hn
      show n < 26 + 1; omega
    · show (-1) * v_iv (n_v (vs ++ [Value.int x]) 22) + 0 ≤ 0
      rw [e_22]
      omega
  have nf5 : fc_1 (23, [4], [0, -1]) ws (vs ++ [Value.int x]) := by
    refine ⟨fun n hn => ?_, ?_⟩
    · have hn : n ∈ [4] := hn
      rw [List.length_append, hl]
      simp only [List.mem_cons, List.not_mem_nil, or_false] at hn
      show n < 26 + 1; omega
    · show (-1) * v_iv (n_v (vs ++ [Value.int x]) 4) + 0 ≤ 0
      rw [e_4]
      omega
  have nf6 : fc_1 (20, [26, 5], [30, -2001, -1, 0, 0, -1, 1, 11]) ws (vs ++ [Value.int x]) := by
    refine ⟨fun n hn => ?_, ?_⟩
    · have hn : n ∈ [26, 5] := hn
      rw [List.length_append, hl]
      simp only [List.mem_cons, List.not_mem_nil, or_false] at hn
      show n < 26 + 1; omega
    · show (-1) * v_iv (n_v (vs ++ [Value.int x]) 26) + ((-1) * w_fi ws (n_v (vs ++ [Value.int x]) 5) 11 + 0) ≤ (-2001)
      rw [e_5]
      rw [e_26]
      rw [q5]
      omega
  have nf7 : fc_1 (24, [0, 5], []) ws (vs ++ [Value.int x]) := by
    refine ⟨fun n hn => ?_, ?_⟩
    · have hn : n ∈ [0, 5] := hn
      rw [List.length_append, hl]
      simp only [List.mem_cons, List.not_mem_nil, or_false] at hn
      show n < 26 + 1; omega
    · show n_v (vs ++ [Value.int x]) 0 = n_v (vs ++ [Value.int x]) 5
      first | rfl | simp only [e_0, e_5, q5, q7]
  have nf8 : fc_1 (24, [2, 7], []) ws (vs ++ [Value.int x]) := by
    refine ⟨fun n hn => ?_, ?_⟩
    · have hn : n ∈ [2, 7] := hn
      rw [List.length_append, hl]
      simp only [List.mem_cons, List.not_mem_nil, or_false] at hn
      show n < 26 + 1; omega
    · show n_v (vs ++ [Value.int x]) 2 = n_v (vs ++ [Value.int x]) 7
      first | rfl | simp only [e_2, e_7, q5, q7]
  obtain ⟨x0, e0, _, _⟩ := tv_int t9 rfl
  have e1 : v_iv (n_v vs 9) = x0.toInt := by rw [e0]; rfl
  have ho : sy_ofs (vs ++ [Value.int x]) (26, 9, 0, 0) := by
    refine ⟨x, x0, by rw [List.getElem?_append_right (by rw [hl]; decide), hl]; rfl, ?_, ?_, ?_⟩
    · rw [List.getElem?_append_left (by rw [hl]; decide)]; exact n_v_some (by rw [hl]; decide) e0
    · show x0.toInt + 0 ≤ x.toInt; omega
    · show x.toInt ≤ x0.toInt + 0; omega
  exact ⟨(fun _ h => (by cases h)), [Value.int x], ag_one hx, List.forall_mem_cons.mpr ⟨⟨show (20 : Nat) < 100 from by decide, nf0⟩, List.forall_mem_cons.mpr ⟨⟨show (20 : Nat) < 100 from by decide, nf1⟩, List.forall_mem_cons.mpr ⟨⟨show (20 : Nat) < 100 from by decide, nf2⟩, List.forall_mem_cons.mpr ⟨⟨show (23 : Nat) < 100 from by decide, nf3⟩, List.forall_mem_cons.mpr ⟨⟨show (23 : Nat) < 100 from by decide, nf4⟩, List.forall_mem_cons.mpr ⟨⟨show (23 : Nat) < 100 from by decide, nf5⟩, List.forall_mem_cons.mpr ⟨⟨show (20 : Nat) < 100 from by decide, nf6⟩, List.forall_mem_cons.mpr ⟨⟨show (24 : Nat) < 100 from by decide, nf7⟩, List.forall_mem_cons.mpr ⟨⟨show (24 : Nat) < 100 from by decide, nf8⟩, (fun _ h => (by cases h))⟩⟩⟩⟩⟩⟩⟩⟩⟩, List.forall_mem_cons.mpr ⟨ho, (fun _ h => (by cases h))⟩⟩
def o_Mo_of_at_s5003_27 : or_T := (58, 16, [(0, (2, 0, 0, [150])), (2, (0, 9, 9, [])), (3, (0, 0, 2000, [])), (4, (0, -1, 48, [])), (5, (2, 0, 0, [150])), (7, (0, 9, 9, [])), (9, (0, 0, 2000, [])), (12, (0, 1, 1, [])), (15, (0, 0, 0, []))], [(20, [5, 5], [30, 0, 1, 1, 15, -1, 1, 11]), (20, [5], [50, 3, 0, 12, 11, 15, 2, 21, 4, 7, 1, 3, 2, 0, 12, 0, 1, 0, 3, 2, 0, 11, 4, 3, 2, 0, 15, 0, 8, 3, 7, 1, 3, 2, 0, 12, 0, 0, 0, 7, 4, 3, 2, 0, 15, 0, 1, 2, 0, 11]), (20, [3, 5], [30, -1, 1, 0, 0, -1, 1, 11]), (23, [4], [0, -1]), (24, [0, 5], []), (24, [2, 7], []), (20, [9, 5], [30, 2000, 1, 0, 0, 1, 1, 11]), (20, [9, 5], [30, -2000, -1, 0, 0, -1, 1, 11]), (20, [12, 5], [50, 1, 0, 1012, 4, 6, 1, 2, 1, 0, 0, 1, 1, 3, 2, 1, 12, 0, 1]), (20, [5], [30, -1, -1, 1, 8]), (102, [14], [0, 13008, 13009]), (8, [12], [1]), (23, [4], [0, -1]), (102, [11], [0]), (23, [4], [0, -1])], [], [], [(20, [0, 0], [30, 0, 1, 1, 15, -1, 1, 11]), (20, [0], [50, 3, 0, 12, 11, 15, 2, 21, 4, 7, 1, 3, 2, 0, 12, 0, 1, 0, 3, 2, 0, 11, 4, 3, 2, 0, 15, 0, 8, 3, 7, 1, 3, 2, 0, 12, 0, 0, 0, 7, 4, 3, 2, 0, 15, 0, 1, 2, 0, 11]), (20, [3, 0], [30, 0, 1, 0, 0, -1, 1, 11]), (20, [0, 3], [50, 3, 0, 8, 12, 11, 3, 7, 0, 2, 0, 1, 2, 0, 8, 3, 7, 1, 3, 2, 0, 12, 0, 0, 0, 6, 4, 2, 1, 1, 0, 1, 2, 0, 11]), (20, [0, 4], [50, 1, 0, 8, 3, 7, 0, 2, 0, 1, 2, 0, 8, 0, 2, 0, 0, 1, 1]), (20, [15, 2], [30, 0, 1, 0, 0, -1, 0, 0]), (20, [15], [30, 0, -1, 0, 0])], [], [(2, 3, -4294967296, 9), (2, 4, -4294967296, 10), (2, 7, -4294967296, 0), (3, 2, -4294967296, 1991), (3, 4, -4294967296, 2001), (3, 7, -4294967296, 1991), (4, 2, -4294967296, 39), (4, 3, -4294967296, 48), (4, 7, -4294967296, 39), (7, 2, -4294967296, 0), (7, 3, -4294967296, 9), (7, 4, -4294967296, 10)])
theorem oo_Mo_of_at_s5003_27 {kA : Nat → ClassId} : or_ok kA GG o_Mo_of_at_s5003_27 := by
  intro A ta ws vs hD hth hl hk hds hf
  have hl : vs.length = 16 := hl
  have hk : ∀ q ∈ ([(0, (2, 0, 0, [150])), (2, (0, 9, 9, [])), (3, (0, 0, 2000, [])), (4, (0, -1, 48, [])), (5, (2, 0, 0, [150])), (7, (0, 9, 9, [])), (9, (0, 0, 2000, [])), (12, (0, 1, 1, [])), (15, (0, 0, 0, []))] : List (Nat × tv_T)), tv_ok ta q.2 (n_v vs q.1) := hk
  obtain ⟨t0, hk⟩ := List.forall_mem_cons.mp hk
  have t0 : tv_ok ta (2, 0, 0, [150]) (n_v vs 0) := t0
  have r0 : ta (v_ad (n_v vs 0)) = some 150 := tv_rg t0
  obtain ⟨t2, hk⟩ := List.forall_mem_cons.mp hk
  have t2 : tv_ok ta (0, 9, 9, []) (n_v vs 2) := t2
  have k2 : 9 ≤ v_iv (n_v vs 2) ∧ v_iv (n_v vs 2) ≤ 9 := tv_rng t2
  obtain ⟨t3, hk⟩ := List.forall_mem_cons.mp hk
  have t3 : tv_ok ta (0, 0, 2000, []) (n_v vs 3) := t3
  have k3 : 0 ≤ v_iv (n_v vs 3) ∧ v_iv (n_v vs 3) ≤ 2000 := tv_rng t3
  obtain ⟨t4, hk⟩ := List.forall_mem_cons.mp hk
  have t4 : tv_ok ta (0, -1, 48, []) (n_v vs 4) := t4
  have k4 : (-1) ≤ v_iv (n_v vs 4) ∧ v_iv (n_v vs 4) ≤ 48 := tv_rng t4
  obtain ⟨t5, hk⟩ := List.forall_mem_cons.mp hk
  have t5 : tv_ok ta (2, 0, 0, [150]) (n_v vs 5) := t5
  have r5 : ta (v_ad (n_v vs 5)) = some 150 := tv_rg t5
  obtain ⟨t7, hk⟩ := List.forall_mem_cons.mp hk
  have t7 : tv_ok ta (0, 9, 9, []) (n_v vs 7) := t7
  have k7 : 9 ≤ v_iv (n_v vs 7) ∧ v_iv (n_v vs 7) ≤ 9 := tv_rng t7
  obtain ⟨t9, hk⟩ := List.forall_mem_cons.mp hk
  have t9 : tv_ok ta (0, 0, 2000, []) (n_v vs 9) := t9
  have k9 : 0 ≤ v_iv (n_v vs 9) ∧ v_iv (n_v vs 9) ≤ 2000 := tv_rng t9
  obtain ⟨t12, hk⟩ := List.forall_mem_cons.mp hk
  have t12 : tv_ok ta (0, 1, 1, []) (n_v vs 12) := t12
  have k12 : 1 ≤ v_iv (n_v vs 12) ∧ v_iv (n_v vs 12) ≤ 1 := tv_rng t12
  obtain ⟨t15, hk⟩ := List.forall_mem_cons.mp hk
  have t15 : tv_ok ta (0, 0, 0, []) (n_v vs 15) := t15
  have k15 : 0 ≤ v_iv (n_v vs 15) ∧ v_iv (n_v vs 15) ≤ 0 := tv_rng t15
  have hds : ∀ q ∈ ([(2, 3, -4294967296, 9), (2, 4, -4294967296, 10), (2, 7, -4294967296, 0), (3, 2, -4294967296, 1991), (3, 4, -4294967296, 2001), (3, 7, -4294967296, 1991), (4, 2, -4294967296, 39), (4, 3, -4294967296, 48), (4, 7, -4294967296, 39), (7, 2, -4294967296, 0), (7, 3, -4294967296, 9), (7, 4, -4294967296, 10)] : List of_T), n_iv vs q.2.1 + q.2.2.1 ≤ n_iv vs q.1 ∧ n_iv vs q.1 ≤ n_iv vs q.2.1 + q.2.2.2 := hds
  obtain ⟨d0, hds⟩ := List.forall_mem_cons.mp hds
  have d0 : v_iv (n_v vs 3) + (-4294967296) ≤ v_iv (n_v vs 2) ∧ v_iv (n_v vs 2) ≤ v_iv (n_v vs 3) + 9 := d0
  obtain ⟨d1, hds⟩ := List.forall_mem_cons.mp hds
  have d1 : v_iv (n_v vs 4) + (-4294967296) ≤ v_iv (n_v vs 2) ∧ v_iv (n_v vs 2) ≤ v_iv (n_v vs 4) + 10 := d1
  obtain ⟨d2, hds⟩ := List.forall_mem_cons.mp hds
  have d2 : v_iv (n_v vs 7) + (-4294967296) ≤ v_iv (n_v vs 2) ∧ v_iv (n_v vs 2) ≤ v_iv (n_v vs 7) + 0 := d2
  obtain ⟨d3, hds⟩ := List.forall_mem_cons.mp hds
  have d3 : v_iv (n_v vs 2) + (-4294967296) ≤ v_iv (n_v vs 3) ∧ v_iv (n_v vs 3) ≤ v_iv (n_v vs 2) + 1991 := d3
  obtain ⟨d4, hds⟩ := List.forall_mem_cons.mp hds
  have d4 : v_iv (n_v vs 4) + (-4294967296) ≤ v_iv (n_v vs 3) ∧ v_iv (n_v vs 3) ≤ v_iv (n_v vs 4) + 2001 := d4
  obtain ⟨d5, hds⟩ := List.forall_mem_cons.mp hds
  have d5 : v_iv (n_v vs 7) + (-4294967296) ≤ v_iv (n_v vs 3) ∧ v_iv (n_v vs 3) ≤ v_iv (n_v vs 7) + 1991 := d5
  obtain ⟨d6, hds⟩ := List.forall_mem_cons.mp hds
  have d6 : v_iv (n_v vs 2) + (-4294967296) ≤ v_iv (n_v vs 4) ∧ v_iv (n_v vs 4) ≤ v_iv (n_v vs 2) + 39 := d6
  obtain ⟨d7, hds⟩ := List.forall_mem_cons.mp hds
  have d7 : v_iv (n_v vs 3) + (-4294967296) ≤ v_iv (n_v vs 4) ∧ v_iv (n_v vs 4) ≤ v_iv (n_v vs 3) + 48 := d7
  obtain ⟨d8, hds⟩ := List.forall_mem_cons.mp hds
  have d8 : v_iv (n_v vs 7) + (-4294967296) ≤ v_iv (n_v vs 4) ∧ v_iv (n_v vs 4) ≤ v_iv (n_v vs 7) + 39 := d8
  obtain ⟨d9, hds⟩ := List.forall_mem_cons.mp hds
  have d9 : v_iv (n_v vs 2) + (-4294967296) ≤ v_iv (n_v vs 7) ∧ v_iv (n_v vs 7) ≤ v_iv (n_v vs 2) + 0 := d9
  obtain ⟨d10, hds⟩ := List.forall_mem_cons.mp hds
  have d10 : v_iv (n_v vs 3) + (-4294967296) ≤ v_iv (n_v vs 7) ∧ v_iv (n_v vs 7) ≤ v_iv (n_v vs 3) + 9 := d10
  obtain ⟨d11, hds⟩ := List.forall_mem_cons.mp hds
  have d11 : v_iv (n_v vs 4) + (-4294967296) ≤ v_iv (n_v vs 7) ∧ v_iv (n_v vs 7) ≤ v_iv (n_v vs 4) + 10 := d11
  have hf : fc_ok [(20, [5, 5], [30, 0, 1, 1, 15, -1, 1, 11]), (20, [5], [50, 3, 0, 12, 11, 15, 2, 21, 4, 7, 1, 3, 2, 0, 12, 0, 1, 0, 3, 2, 0, 11, 4, 3, 2, 0, 15, 0, 8, 3, 7, 1, 3, 2, 0, 12, 0, 0, 0, 7, 4, 3, 2, 0, 15, 0, 1, 2, 0, 11]), (20, [3, 5], [30, -1, 1, 0, 0, -1, 1, 11]), (23, [4], [0, -1]), (24, [0, 5], []), (24, [2, 7], []), (20, [9, 5], [30, 2000, 1, 0, 0, 1, 1, 11]), (20, [9, 5], [30, -2000, -1, 0, 0, -1, 1, 11]), (20, [12, 5], [50, 1, 0, 1012, 4, 6, 1, 2, 1, 0, 0, 1, 1, 3, 2, 1, 12, 0, 1]), (20, [5], [30, -1, -1, 1, 8]), (102, [14], [0, 13008, 13009]), (8, [12], [1]), (23, [4], [0, -1]), (102, [11], [0]), (23, [4], [0, -1])] ta ws vs := hf
  obtain ⟨f0, hf⟩ := fc_un (show (20 : Nat) < 100 from by decide) hf
  have f0 : 1 * w_fi ws (n_v vs 5) 15 + ((-1) * w_fi ws (n_v vs 5) 11 + 0) ≤ 0 := f0
  obtain ⟨f1, hf⟩ := fc_un (show (20 : Nat) < 100 from by decide) hf
  have f1 : ((w_fi ws (n_v vs 5) 12 = 1) → (w_fi ws (n_v vs 5) 11 ≤ (w_fi ws (n_v vs 5) 15 + 8))) ∧ ((w_fi ws (n_v vs 5) 12 = 0) ∨ ((w_fi ws (n_v vs 5) 15 + 1) ≤ w_fi ws (n_v vs 5) 11)) := f1
  obtain ⟨f2, hf⟩ := fc_un (show (20 : Nat) < 100 from by decide) hf
  have f2 : 1 * v_iv (n_v vs 3) + ((-1) * w_fi ws (n_v vs 5) 11 + 0) ≤ (-1) := f2
  obtain ⟨f3, hf⟩ := fc_un (show (23 : Nat) < 100 from by decide) hf
  have f3 : (-1) * v_iv (n_v vs 4) + 0 ≤ 0 := f3
  obtain ⟨f4, hf⟩ := fc_un (show (24 : Nat) < 100 from by decide) hf
  have f4 : n_v vs 0 = n_v vs 5 := f4
  obtain ⟨f5, hf⟩ := fc_un (show (24 : Nat) < 100 from by decide) hf
  have f5 : n_v vs 2 = n_v vs 7 := f5
  obtain ⟨f6, hf⟩ := fc_un (show (20 : Nat) < 100 from by decide) hf
  have f6 : 1 * v_iv (n_v vs 9) + (1 * w_fi ws (n_v vs 5) 11 + 0) ≤ 2000 := f6
  obtain ⟨f7, hf⟩ := fc_un (show (20 : Nat) < 100 from by decide) hf
  have f7 : (-1) * v_iv (n_v vs 9) + ((-1) * w_fi ws (n_v vs 5) 11 + 0) ≤ (-2000) := f7
  obtain ⟨f8, hf⟩ := fc_un (show (20 : Nat) < 100 from by decide) hf
  have f8 : (v_iv (n_v vs 12) = 1) → (w_fi ws (n_v vs 5) 12 = 1) := f8
  obtain ⟨f9, hf⟩ := fc_un (show (20 : Nat) < 100 from by decide) hf
  have f9 : (-1) * w_fi ws (n_v vs 5) 8 + 0 ≤ (-1) := f9
  obtain ⟨ta1, w1, le1, ⟨_, s1⟩, hf⟩ := fc_us (show ¬ (102 : Nat) < 100 from by decide) hf
  obtain ⟨f11, hf⟩ := fc_un (show (8 : Nat) < 100 from by decide) hf
  have f11 : v_iv (n_v vs 12) ≠ 0 := f11
  obtain ⟨f12, hf⟩ := fc_un (show (23 : Nat) < 100 from by decide) hf
  have f12 : (-1) * v_iv (n_v vs 4) + 0 ≤ 0 := f12
  obtain ⟨ta2, w2, le2, ⟨_, s2⟩, hf⟩ := fc_us (show ¬ (102 : Nat) < 100 from by decide) hf
  obtain ⟨f14, hf⟩ := fc_un (show (23 : Nat) < 100 from by decide) hf
  have f14 : (-1) * v_iv (n_v vs 4) + 0 ≤ 0 := f14
  have q5 : n_v vs 5 = n_v vs 0 := f4.symm
  have q7 : n_v vs 7 = n_v vs 2 := f5.symm
  rw [q5] at f0
  rw [q5] at f1
  rw [q5] at f2
  rw [q5] at f6
  rw [q5] at f7
  rw [q5] at f8
  rw [q5] at f9
  have kz_0_8 : 0 ≤ w_fi ws (n_v vs 0) 8 ∧ w_fi ws (n_v vs 0) 8 ≤ 5 := tv_rng (th_fd hD hth r0 (g := GG_150) rfl (k := 8) (t := (0, 0, 5, [])) rfl rfl)
  have kz_0_11 : 0 ≤ w_fi ws (n_v vs 0) 11 ∧ w_fi ws (n_v vs 0) 11 ≤ 2000 := tv_rng (th_fd hD hth r0 (g := GG_150) rfl (k := 11) (t := (0, 0, 2000, [])) rfl rfl)
  have kz_0_12 : 0 ≤ w_fi ws (n_v vs 0) 12 ∧ w_fi ws (n_v vs 0) 12 ≤ 4 := tv_rng (th_fd hD hth r0 (g := GG_150) rfl (k := 12) (t := (0, 0, 4, [])) rfl rfl)
  have kz_0_15 : 0 ≤ w_fi ws (n_v vs 0) 15 ∧ w_fi ws (n_v vs 0) 15 ≤ 2000 := tv_rng (th_fd hD hth r0 (g := GG_150) rfl (k := 15) (t := (0, 0, 2000, [])) rfl rfl)
  have nf0 : fc_1 (20, [0, 0], [30, 0, 1, 1, 15, -1, 1, 11]) ws (vs) := by
    refine ⟨fun n hn => ?_, ?_⟩
    · have hn : n ∈ [0, 0] := hn
      rw [hl]
      simp only [List.mem_cons, List.not_mem_nil, or_false] at hn
      show n < 16; omega
    · show 1 * w_fi ws (n_v vs 0) 15 + ((-1) * w_fi ws (n_v vs 0) 11 + 0) ≤ 0
      omega
  have nf1 : fc_1 (20, [0], [50, 3, 0, 12, 11, 15, 2, 21, 4, 7, 1, 3, 2, 0, 12, 0, 1, 0, 3, 2, 0, 11, 4, 3, 2, 0, 15, 0, 8, 3, 7, 1, 3, 2, 0, 12, 0, 0, 0, 7, 4, 3, 2, 0, 15, 0, 1, 2, 0, 11]) ws (vs) := by
    refine ⟨fun n hn => ?_, ?_⟩
    · have hn : n ∈ [0] := hn
      rw [hl]
      simp only [List.mem_cons, List.not_mem_nil, or_false] at hn
      show n < 16; omega
    · show ((w_fi ws (n_v vs 0) 12 = 1) → (w_fi ws (n_v vs 0) 11 ≤ (w_fi ws (n_v vs 0) 15 + 8))) ∧ ((w_fi ws (n_v vs 0) 12 = 0) ∨ ((w_fi ws (n_v vs 0) 15 + 1) ≤ w_fi ws (n_v vs 0) 11))
      first | omega | grind
  have nf2 : fc_1 (20, [3, 0], [30, 0, 1, 0, 0, -1, 1, 11]) ws (vs) := by
    refine ⟨fun n hn => ?_, ?_⟩
    · have hn : n ∈ [3, 0] := hn
      rw [hl]
      simp only [List.mem_cons, List.not_mem_nil, or_false] at hn
      show n < 16; omega
    · show 1 * v_iv (n_v vs 3) + ((-1) * w_fi ws (n_v vs 0) 11 + 0) ≤ 0
      omega
  have nf3 : fc_1 (20, [0, 3], [50, 3, 0, 8, 12, 11, 3, 7, 0, 2, 0, 1, 2, 0, 8, 3, 7, 1, 3, 2, 0, 12, 0, 0, 0, 6, 4, 2, 1, 1, 0, 1, 2, 0, 11]) ws (vs) := by
    refine ⟨fun n hn => ?_, ?_⟩
    · have hn : n ∈ [0, 3] := hn
      rw [hl]
      simp only [List.mem_cons, List.not_mem_nil, or_false] at hn
      show n < 16; omega
    · show (1 ≤ w_fi ws (n_v vs 0) 8) ∨ ((w_fi ws (n_v vs 0) 12 = 0) ∨ ((v_iv (n_v vs 3) + 1) ≤ w_fi ws (n_v vs 0) 11))
      first | omega | grind
  have nf4 : fc_1 (20, [0, 4], [50, 1, 0, 8, 3, 7, 0, 2, 0, 1, 2, 0, 8, 0, 2, 0, 0, 1, 1]) ws (vs) := by
    refine ⟨fun n hn => ?_, ?_⟩
    · have hn : n ∈ [0, 4] := hn
      rw [hl]
      simp only [List.mem_cons, List.not_mem_nil, or_false] at hn
      show n < 16; omega
    · show (1 ≤ w_fi ws (n_v vs 0) 8) ∨ (0 ≤ v_iv (n_v vs 4))
      first | omega | grind
  have nf5 : fc_1 (20, [15, 2], [30, 0, 1, 0, 0, -1, 0, 0]) ws (vs) := by
    refine ⟨fun n hn => ?_, ?_⟩
    · have hn : n ∈ [15, 2] := hn
      rw [hl]
      simp only [List.mem_cons, List.not_mem_nil, or_false] at hn
      show n < 16; omega
    · show 1 * v_iv (n_v vs 15) + ((-1) * v_iv (n_v vs 2) + 0) ≤ 0
      omega
  have nf6 : fc_1 (20, [15], [30, 0, -1, 0, 0]) ws (vs) := by
    refine ⟨fun n hn => ?_, ?_⟩
    · have hn : n ∈ [15] := hn
      rw [hl]
      simp only [List.mem_cons, List.not_mem_nil, or_false] at hn
      show n < 16; omega
    · show (-1) * v_iv (n_v vs 15) + 0 ≤ 0
      omega
  refine ⟨(fun _ h => (by cases h)), [], trivial, ?_, (fun _ h => (by cases h))⟩
  rw [List.append_nil]
  exact List.forall_mem_cons.mpr ⟨⟨show (20 : Nat) < 100 from by decide, nf0⟩, List.forall_mem_cons.mpr ⟨⟨show (20 : Nat) < 100 from by decide, nf1⟩, List.forall_mem_cons.mpr ⟨⟨show (20 : Nat) < 100 from by decide, nf2⟩, List.forall_mem_cons.mpr ⟨⟨show (20 : Nat) < 100 from by decide, nf3⟩, List.forall_mem_cons.mpr ⟨⟨show (20 : Nat) < 100 from by decide, nf4⟩, List.forall_mem_cons.mpr ⟨⟨show (20 : Nat) < 100 from by decide, nf5⟩, List.forall_mem_cons.mpr ⟨⟨show (20 : Nat) < 100 from by decide, nf6⟩, (fun _ h => (by cases h))⟩⟩⟩⟩⟩⟩⟩
def o_Mo_of_at_s5003_28 : or_T := (35, 15, [(0, (2, 0, 0, [150])), (2, (0, 9, 9, [])), (3, (0, 0, 2000, [])), (4, (0, -1, 48, [])), (5, (2, 0, 0, [150])), (7, (0, 9, 9, [])), (9, (0, 0, 2000, [])), (14, (0, 0, 0, []))], [(20, [5, 5], [30, 0, 1, 1, 15, -1, 1, 11]), (20, [5], [50, 3, 0, 12, 11, 15, 2, 21, 4, 7, 1, 3, 2, 0, 12, 0, 1, 0, 3, 2, 0, 11, 4, 3, 2, 0, 15, 0, 8, 3, 7, 1, 3, 2, 0, 12, 0, 0, 0, 7, 4, 3, 2, 0, 15, 0, 1, 2, 0, 11]), (20, [3, 5], [30, -1, 1, 0, 0, -1, 1, 11]), (23, [4], [0, -1]), (24, [0, 5], []), (24, [2, 7], []), (20, [9, 5], [30, 2000, 1, 0, 0, 1, 1, 11]), (20, [9, 5], [30, -2000, -1, 0, 0, -1, 1, 11]), (20, [5], [30, -1, -1, 1, 8]), (102, [13], [0, 13008, 13009]), (23, [4], [0, -1])], [], [], [(20, [0, 0], [30, 0, 1, 1, 15, -1, 1, 11]), (20, [0], [50, 3, 0, 12, 11, 15, 2, 21, 4, 7, 1, 3, 2, 0, 12, 0, 1, 0, 3, 2, 0, 11, 4, 3, 2, 0, 15, 0, 8, 3, 7, 1, 3, 2, 0, 12, 0, 0, 0, 7, 4, 3, 2, 0, 15, 0, 1, 2, 0, 11]), (20, [3, 0], [30, 0, 1, 0, 0, -1, 1, 11]), (20, [0, 3], [50, 3, 0, 8, 12, 11, 3, 7, 0, 2, 0, 1, 2, 0, 8, 3, 7, 1, 3, 2, 0, 12, 0, 0, 0, 6, 4, 2, 1, 1, 0, 1, 2, 0, 11]), (20, [0, 4], [50, 1, 0, 8, 3, 7, 0, 2, 0, 1, 2, 0, 8, 0, 2, 0, 0, 1, 1]), (20, [14, 2], [30, 0, 1, 0, 0, -1, 0, 0]), (20, [14], [30, 0, -1, 0, 0])], [], [(2, 3, -4294967296, 9), (2, 4, -4294967296, 10), (2, 7, -4294967296, 0), (3, 2, -4294967296, 1991), (3, 4, -4294967296, 2001), (3, 7, -4294967296, 1991), (4, 2, -4294967296, 39), (4, 3, -4294967296, 48), (4, 7, -4294967296, 39), (7, 2, -4294967296, 0), (7, 3, -4294967296, 9), (7, 4, -4294967296, 10)])
theorem oo_Mo_of_at_s5003_28 {kA : Nat → ClassId} : or_ok kA GG o_Mo_of_at_s5003_28 := by
  intro A ta ws vs hD hth hl hk hds hf
  have hl : vs.length = 15 := hl
  have hk : ∀ q ∈ ([(0, (2, 0, 0, [150])), (2, (0, 9, 9, [])), (3, (0, 0, 2000, [])), (4, (0, -1, 48, [])), (5, (2, 0, 0, [150])), (7, (0, 9, 9, [])), (9, (0, 0, 2000, [])), (14, (0, 0, 0, []))] : List (Nat × tv_T)), tv_ok ta q.2 (n_v vs q.1) := hk
  obtain ⟨t0, hk⟩ := List.forall_mem_cons.mp hk
  have t0 : tv_ok ta (2, 0, 0, [150]) (n_v vs 0) := t0
  have r0 : ta (v_ad (n_v vs 0)) = some 150 := tv_rg t0
  obtain ⟨t2, hk⟩ := List.forall_mem_cons.mp hk
  have t2 : tv_ok ta (0, 9, 9, []) (n_v vs 2) := t2
  have k2 : 9 ≤ v_iv (n_v vs 2) ∧ v_iv (n_v vs 2) ≤ 9 := tv_rng t2
  obtain ⟨t3, hk⟩ := List.forall_mem_cons.mp hk
  have t3 : tv_ok ta (0, 0, 2000, []) (n_v vs 3) := t3
  have k3 : 0 ≤ v_iv (n_v vs 3) ∧ v_iv (n_v vs 3) ≤ 2000 := tv_rng t3
  obtain ⟨t4, hk⟩ := List.forall_mem_cons.mp hk
  have t4 : tv_ok ta (0, -1, 48, []) (n_v vs 4) := t4
  have k4 : (-1) ≤ v_iv (n_v vs 4) ∧ v_iv (n_v vs 4) ≤ 48 := tv_rng t4
  obtain ⟨t5, hk⟩ := List.forall_mem_cons.mp hk
  have t5 : tv_ok ta (2, 0, 0, [150]) (n_v vs 5) := t5
  have r5 : ta (v_ad (n_v vs 5)) = some 150 := tv_rg t5
  obtain ⟨t7, hk⟩ := List.forall_mem_cons.mp hk
  have t7 : tv_ok ta (0, 9, 9, []) (n_v vs 7) := t7
  have k7 : 9 ≤ v_iv (n_v vs 7) ∧ v_iv (n_v vs 7) ≤ 9 := tv_rng t7
  obtain ⟨t9, hk⟩ := List.forall_mem_cons.mp hk
  have t9 : tv_ok ta (0, 0, 2000, []) (n_v vs 9) := t9
  have k9 : 0 ≤ v_iv (n_v vs 9) ∧ v_iv (n_v vs 9) ≤ 2000 := tv_rng t9
  obtain ⟨t14, hk⟩ := List.forall_mem_cons.mp hk
  have t14 : tv_ok ta (0, 0, 0, []) (n_v vs 14) := t14
  have k14 : 0 ≤ v_iv (n_v vs 14) ∧ v_iv (n_v vs 14) ≤ 0 := tv_rng t14
  have hds : ∀ q ∈ ([(2, 3, -4294967296, 9), (2, 4, -4294967296, 10), (2, 7, -4294967296, 0), (3, 2, -4294967296, 1991), (3, 4, -4294967296, 2001), (3, 7, -4294967296, 1991), (4, 2, -4294967296, 39), (4, 3, -4294967296, 48), (4, 7, -4294967296, 39), (7, 2, -4294967296, 0), (7, 3, -4294967296, 9), (7, 4, -4294967296, 10)] : List of_T), n_iv vs q.2.1 + q.2.2.1 ≤ n_iv vs q.1 ∧ n_iv vs q.1 ≤ n_iv vs q.2.1 + q.2.2.2 := hds
  obtain ⟨d0, hds⟩ := List.forall_mem_cons.mp hds
  have d0 : v_iv (n_v vs 3) + (-4294967296) ≤ v_iv (n_v vs 2) ∧ v_iv (n_v vs 2) ≤ v_iv (n_v vs 3) + 9 := d0
  obtain ⟨d1, hds⟩ := List.forall_mem_cons.mp hds
  have d1 : v_iv (n_v vs 4) + (-4294967296) ≤ v_iv (n_v vs 2) ∧ v_iv (n_v vs 2) ≤ v_iv (n_v vs 4) + 10 := d1
  obtain ⟨d2, hds⟩ := List.forall_mem_cons.mp hds
  have d2 : v_iv (n_v vs 7) + (-4294967296) ≤ v_iv (n_v vs 2) ∧ v_iv (n_v vs 2) ≤ v_iv (n_v vs 7) + 0 := d2
  obtain ⟨d3, hds⟩ := List.forall_mem_cons.mp hds
  have d3 : v_iv (n_v vs 2) + (-4294967296) ≤ v_iv (n_v vs 3) ∧ v_iv (n_v vs 3) ≤ v_iv (n_v vs 2) + 1991 := d3
  obtain ⟨d4, hds⟩ := List.forall_mem_cons.mp hds
  have d4 : v_iv (n_v vs 4) + (-4294967296) ≤ v_iv (n_v vs 3) ∧ v_iv (n_v vs 3) ≤ v_iv (n_v vs 4) + 2001 := d4
  obtain ⟨d5, hds⟩ := List.forall_mem_cons.mp hds
  have d5 : v_iv (n_v vs 7) + (-4294967296) ≤ v_iv (n_v vs 3) ∧ v_iv (n_v vs 3) ≤ v_iv (n_v vs 7) + 1991 := d5
  obtain ⟨d6, hds⟩ := List.forall_mem_cons.mp hds
  have d6 : v_iv (n_v vs 2) + (-4294967296) ≤ v_iv (n_v vs 4) ∧ v_iv (n_v vs 4) ≤ v_iv (n_v vs 2) + 39 := d6
  obtain ⟨d7, hds⟩ := List.forall_mem_cons.mp hds
  have d7 : v_iv (n_v vs 3) + (-4294967296) ≤ v_iv (n_v vs 4) ∧ v_iv (n_v vs 4) ≤ v_iv (n_v vs 3) + 48 := d7
  obtain ⟨d8, hds⟩ := List.forall_mem_cons.mp hds
  have d8 : v_iv (n_v vs 7) + (-4294967296) ≤ v_iv (n_v vs 4) ∧ v_iv (n_v vs 4) ≤ v_iv (n_v vs 7) + 39 := d8
  obtain ⟨d9, hds⟩ := List.forall_mem_cons.mp hds
  have d9 : v_iv (n_v vs 2) + (-4294967296) ≤ v_iv (n_v vs 7) ∧ v_iv (n_v vs 7) ≤ v_iv (n_v vs 2) + 0 := d9
  obtain ⟨d10, hds⟩ := List.forall_mem_cons.mp hds
  have d10 : v_iv (n_v vs 3) + (-4294967296) ≤ v_iv (n_v vs 7) ∧ v_iv (n_v vs 7) ≤ v_iv (n_v vs 3) + 9 := d10
  obtain ⟨d11, hds⟩ := List.forall_mem_cons.mp hds
  have d11 : v_iv (n_v vs 4) + (-4294967296) ≤ v_iv (n_v vs 7) ∧ v_iv (n_v vs 7) ≤ v_iv (n_v vs 4) + 10 := d11
  have hf : fc_ok [(20, [5, 5], [30, 0, 1, 1, 15, -1, 1, 11]), (20, [5], [50, 3, 0, 12, 11, 15, 2, 21, 4, 7, 1, 3, 2, 0, 12, 0, 1, 0, 3, 2, 0, 11, 4, 3, 2, 0, 15, 0, 8, 3, 7, 1, 3, 2, 0, 12, 0, 0, 0, 7, 4, 3, 2, 0, 15, 0, 1, 2, 0, 11]), (20, [3, 5], [30, -1, 1, 0, 0, -1, 1, 11]), (23, [4], [0, -1]), (24, [0, 5], []), (24, [2, 7], []), (20, [9, 5], [30, 2000, 1, 0, 0, 1, 1, 11]), (20, [9, 5], [30, -2000, -1, 0, 0, -1, 1, 11]), (20, [5], [30, -1, -1, 1, 8]), (102, [13], [0, 13008, 13009]), (23, [4], [0, -1])] ta ws vs := hf
  obtain ⟨f0, hf⟩ := fc_un (show (20 : Nat) < 100 from by decide) hf
  have f0 : 1 * w_fi ws (n_v vs 5) 15 + ((-1) * w_fi ws (n_v vs 5) 11 + 0) ≤ 0 := f0
  obtain ⟨f1, hf⟩ := fc_un (show (20 : Nat) < 100 from by decide) hf
  have f1 : ((w_fi ws (n_v vs 5) 12 = 1) → (w_fi ws (n_v vs 5) 11 ≤ (w_fi ws (n_v vs 5) 15 + 8))) ∧ ((w_fi ws (n_v vs 5) 12 = 0) ∨ ((w_fi ws (n_v vs 5) 15 + 1) ≤ w_fi ws (n_v vs 5) 11)) := f1
  obtain ⟨f2, hf⟩ := fc_un (show (20 : Nat) < 100 from by decide) hf
  have f2 : 1 * v_iv (n_v vs 3) + ((-1) * w_fi ws (n_v vs 5) 11 + 0) ≤ (-1) := f2
  obtain ⟨f3, hf⟩ := fc_un (show (23 : Nat) < 100 from by decide) hf
  have f3 : (-1) * v_iv (n_v vs 4) + 0 ≤ 0 := f3
  obtain ⟨f4, hf⟩ := fc_un (show (24 : Nat) < 100 from by decide) hf
  have f4 : n_v vs 0 = n_v vs 5 := f4
  obtain ⟨f5, hf⟩ := fc_un (show (24 : Nat) < 100 from by decide) hf
  have f5 : n_v vs 2 = n_v vs 7 := f5
  obtain ⟨f6, hf⟩ := fc_un (show (20 : Nat) < 100 from by decide) hf
  have f6 : 1 * v_iv (n_v vs 9) + (1 * w_fi ws (n_v vs 5) 11 + 0) ≤ 2000 := f6
  obtain ⟨f7, hf⟩ := fc_un (show (20 : Nat) < 100 from by decide) hf
  have f7 : (-1) * v_iv (n_v vs 9) + ((-1) * w_fi ws (n_v vs 5) 11 + 0) ≤ (-2000) := f7
  obtain ⟨f8, hf⟩ := fc_un (show (20 : Nat) < 100 from by decide) hf
  have f8 : (-1) * w_fi ws (n_v vs 5) 8 + 0 ≤ (-1) := f8
  obtain ⟨ta1, w1, le1, ⟨_, s1⟩, hf⟩ := fc_us (show ¬ (102 : Nat) < 100 from by decide) hf
  obtain ⟨f10, hf⟩ := fc_un (show (23 : Nat) < 100 from by decide) hf
  have f10 : (-1) * v_iv (n_v vs 4) + 0 ≤ 0 := f10
  have q5 : n_v vs 5 = n_v vs 0 := f4.symm
  have q7 : n_v vs 7 = n_v vs 2 := f5.symm
  rw [q5] at f0
  rw [q5] at f1
  rw [q5] at f2
  rw [q5] at f6
  rw [q5] at f7
  rw [q5] at f8
  have kz_0_8 : 0 ≤ w_fi ws (n_v vs 0) 8 ∧ w_fi ws (n_v vs 0) 8 ≤ 5 := tv_rng (th_fd hD hth r0 (g := GG_150) rfl (k := 8) (t := (0, 0, 5, [])) rfl rfl)
  have kz_0_11 : 0 ≤ w_fi ws (n_v vs 0) 11 ∧ w_fi ws (n_v vs 0) 11 ≤ 2000 := tv_rng (th_fd hD hth r0 (g := GG_150) rfl (k := 11) (t := (0, 0, 2000, [])) rfl rfl)
  have kz_0_12 : 0 ≤ w_fi ws (n_v vs 0) 12 ∧ w_fi ws (n_v vs 0) 12 ≤ 4 := tv_rng (th_fd hD hth r0 (g := GG_150) rfl (k := 12) (t := (0, 0, 4, [])) rfl rfl)
  have kz_0_15 : 0 ≤ w_fi ws (n_v vs 0) 15 ∧ w_fi ws (n_v vs 0) 15 ≤ 2000 := tv_rng (th_fd hD hth r0 (g := GG_150) rfl (k := 15) (t := (0, 0, 2000, [])) rfl rfl)
  have nf0 : fc_1 (20, [0, 0], [30, 0, 1, 1, 15, -1, 1, 11]) ws (vs) := by
    refine ⟨fun n hn => ?_, ?_⟩
    · have hn : n ∈ [0, 0] := hn
      rw [hl]
      simp only [List.mem_cons, List.not_mem_nil, or_false] at hn
      show n < 15; omega
    · show 1 * w_fi ws (n_v vs 0) 15 + ((-1) * w_fi ws (n_v vs 0) 11 + 0) ≤ 0
      omega
  have nf1 : fc_1 (20, [0], [50, 3, 0, 12, 11, 15, 2, 21, 4, 7, 1, 3, 2, 0, 12, 0, 1, 0, 3, 2, 0, 11, 4, 3, 2, 0, 15, 0, 8, 3, 7, 1, 3, 2, 0, 12, 0, 0, 0, 7, 4, 3, 2, 0, 15, 0, 1, 2, 0, 11]) ws (vs) := by
    refine ⟨fun n hn => ?_, ?_⟩
    · have hn : n ∈ [0] := hn
      rw [hl]
      simp only [List.mem_cons, List.not_mem_nil, or_false] at hn
      show n < 15; omega
    · show ((w_fi ws (n_v vs 0) 12 = 1) → (w_fi ws (n_v vs 0) 11 ≤ (w_fi ws (n_v vs 0) 15 + 8))) ∧ ((w_fi ws (n_v vs 0) 12 = 0) ∨ ((w_fi ws (n_v vs 0) 15 + 1) ≤ w_fi ws (n_v vs 0) 11))
      first | omega | grind
  have nf2 : fc_1 (20, [3, 0], [30, 0, 1, 0, 0, -1, 1, 11]) ws (vs) := by
    refine ⟨fun n hn => ?_, ?_⟩
    · have hn : n ∈ [3, 0] := hn
      rw [hl]
      simp only [List.mem_cons, List.not_mem_nil, or_false] at hn
      show n < 15; omega
    · show 1 * v_iv (n_v vs 3) + ((-1) * w_fi ws (n_v vs 0) 11 + 0) ≤ 0
      omega
  have nf3 : fc_1 (20, [0, 3], [50, 3, 0, 8, 12, 11, 3, 7, 0, 2, 0, 1, 2, 0, 8, 3, 7, 1, 3, 2, 0, 12, 0, 0, 0, 6, 4, 2, 1, 1, 0, 1, 2, 0, 11]) ws (vs) := by
    refine ⟨fun n hn => ?_, ?_⟩
    · have hn : n ∈ [0, 3] := hn
      rw [hl]
      simp only [List.mem_cons, List.not_mem_nil, or_false] at hn
      show n < 15; omega
    · show (1 ≤ w_fi ws (n_v vs 0) 8) ∨ ((w_fi ws (n_v vs 0) 12 = 0) ∨ ((v_iv (n_v vs 3) + 1) ≤ w_fi ws (n_v vs 0) 11))
      first | omega | grind
  have nf4 : fc_1 (20, [0, 4], [50, 1, 0, 8, 3, 7, 0, 2, 0, 1, 2, 0, 8, 0, 2, 0, 0, 1, 1]) ws (vs) := by
    refine ⟨fun n hn => ?_, ?_⟩
    · have hn : n ∈ [0, 4] := hn
      rw [hl]
      simp only [List.mem_cons, List.not_mem_nil, or_false] at hn
      show n < 15; omega
    · show (1 ≤ w_fi ws (n_v vs 0) 8) ∨ (0 ≤ v_iv (n_v vs 4))
      first | omega | grind
  have nf5 : fc_1 (20, [14, 2], [30, 0, 1, 0, 0, -1, 0, 0]) ws (vs) := by
    refine ⟨fun n hn => ?_, ?_⟩
    · have hn : n ∈ [14, 2] := hn
      rw [hl]
      simp only [List.mem_cons, List.not_mem_nil, or_false] at hn
      show n < 15; omega
    · show 1 * v_iv (n_v vs 14) + ((-1) * v_iv (n_v vs 2) + 0) ≤ 0
      omega
  have nf6 : fc_1 (20, [14], [30, 0, -1, 0, 0]) ws (vs) := by
    refine ⟨fun n hn => ?_, ?_⟩
    · have hn : n ∈ [14] := hn
      rw [hl]
      simp only [List.mem_cons, List.not_mem_nil, or_false] at hn
      show n < 15; omega
    · show (-1) * v_iv (n_v vs 14) + 0 ≤ 0
      omega
  refine ⟨(fun _ h => (by cases h)), [], trivial, ?_, (fun _ h => (by cases h))⟩
  rw [List.append_nil]
  exact List.forall_mem_cons.mpr ⟨⟨show (20 : Nat) < 100 from by decide, nf0⟩, List.forall_mem_cons.mpr ⟨⟨show (20 : Nat) < 100 from by decide, nf1⟩, List.forall_mem_cons.mpr ⟨⟨show (20 : Nat) < 100 from by decide, nf2⟩, List.forall_mem_cons.mpr ⟨⟨show (20 : Nat) < 100 from by decide, nf3⟩, List.forall_mem_cons.mpr ⟨⟨show (20 : Nat) < 100 from by decide, nf4⟩, List.forall_mem_cons.mpr ⟨⟨show (20 : Nat) < 100 from by decide, nf5⟩, List.forall_mem_cons.mpr ⟨⟨show (20 : Nat) < 100 from by decide, nf6⟩, (fun _ h => (by cases h))⟩⟩⟩⟩⟩⟩⟩
def o_Mo_of_at_s5003_29 : or_T := (17, 13, [(0, (2, 0, 0, [150])), (2, (0, 9, 9, [])), (3, (0, 0, 2000, [])), (4, (0, -1, 48, [])), (5, (2, 0, 0, [150])), (7, (0, 9, 9, [])), (8, (0, -2147483648, 2147483647, [])), (9, (0, 0, 0, [])), (10, (0, 0, 2000, [])), (12, (0, 0, 0, []))], [(8, [12], [0]), (20, [12, 5], [50, 2, 0, 1012, 1008, 4, 6, 1, 2, 1, 0, 0, 1, 2, 7, 1, 3, 2, 1, 12, 0, 3, 1, 3, 2, 1, 8, 0, 0]), (8, [9], [0]), (9, [9, 5], [8]), (20, [5, 5], [30, 0, 1, 1, 15, -1, 1, 11]), (20, [5], [50, 3, 0, 12, 11, 15, 2, 21, 4, 7, 1, 3, 2, 0, 12, 0, 1, 0, 3, 2, 0, 11, 4, 3, 2, 0, 15, 0, 8, 3, 7, 1, 3, 2, 0, 12, 0, 0, 0, 7, 4, 3, 2, 0, 15, 0, 1, 2, 0, 11]), (20, [3, 5], [30, -1, 1, 0, 0, -1, 1, 11]), (23, [8, 7], [0, 1, -1]), (23, [8], [0, -1]), (23, [4], [0, -1]), (20, [10, 5], [30, -2001, -1, 0, 0, -1, 1, 11]), (24, [0, 5], []), (24, [2, 7], [])], [], [(0, 0, 2000, [])], [(20, [5, 5], [30, 0, 1, 1, 15, -1, 1, 11]), (20, [5], [50, 3, 0, 12, 11, 15, 2, 21, 4, 7, 1, 3, 2, 0, 12, 0, 1, 0, 3, 2, 0, 11, 4, 3, 2, 0, 15, 0, 8, 3, 7, 1, 3, 2, 0, 12, 0, 0, 0, 7, 4, 3, 2, 0, 15, 0, 1, 2, 0, 11]), (20, [3, 5], [30, -1, 1, 0, 0, -1, 1, 11]), (23, [8, 7], [0, 1, -1]), (23, [8], [0, -1]), (23, [4], [0, -1]), (24, [0, 5], []), (24, [2, 7], []), (20, [13, 5], [30, 2000, 1, 0, 0, 1, 1, 11]), (20, [13, 5], [30, -2000, -1, 0, 0, -1, 1, 11])], [(13, 10, -1000000000000, -1)], [(2, 3, -4294967296, 9), (2, 4, -4294967296, 10), (2, 7, -4294967296, 0), (2, 9, -4294967296, 9), (3, 2, -4294967296, 1991), (3, 4, -4294967296, 2001), (3, 7, -4294967296, 1991), (3, 9, -4294967296, 2000), (4, 2, -4294967296, 39), (4, 3, -4294967296, 48), (4, 7, -4294967296, 39), (4, 9, -4294967296, 48), (7, 2, -4294967296, 0), (7, 3, -4294967296, 9), (7, 4, -4294967296, 10), (7, 9, -4294967296, 9), (8, 2, -4294967296, 2147483638), (8, 3, -4294967296, 2147483647), (8, 4, -4294967296, 2147483648), (8, 7, -4294967296, 2147483638), (8, 9, -4294967296, 2147483647), (9, 2, -4294967296, -9), (9, 3, -4294967296, 0), (9, 4, -4294967296, 1), (9, 7, -4294967296, -9)])
theorem oo_Mo_of_at_s5003_29 {kA : Nat → ClassId} : or_ok kA GG o_Mo_of_at_s5003_29 := by
  intro A ta ws vs hD hth hl hk hds hf
  have hl : vs.length = 13 := hl
  have hk : ∀ q ∈ ([(0, (2, 0, 0, [150])), (2, (0, 9, 9, [])), (3, (0, 0, 2000, [])), (4, (0, -1, 48, [])), (5, (2, 0, 0, [150])), (7, (0, 9, 9, [])), (8, (0, -2147483648, 2147483647, [])), (9, (0, 0, 0, [])), (10, (0, 0, 2000, [])), (12, (0, 0, 0, []))] : List (Nat × tv_T)), tv_ok ta q.2 (n_v vs q.1) := hk
  obtain ⟨t0, hk⟩ := List.forall_mem_cons.mp hk
  have t0 : tv_ok ta (2, 0, 0, [150]) (n_v vs 0) := t0
  have r0 : ta (v_ad (n_v vs 0)) = some 150 := tv_rg t0
  obtain ⟨t2, hk⟩ := List.forall_mem_cons.mp hk
  have t2 : tv_ok ta (0, 9, 9, []) (n_v vs 2) := t2
  have k2 : 9 ≤ v_iv (n_v vs 2) ∧ v_iv (n_v vs 2) ≤ 9 := tv_rng t2
  obtain ⟨t3, hk⟩ := List.forall_mem_cons.mp hk
  have t3 : tv_ok ta (0, 0, 2000, []) (n_v vs 3) := t3
  have k3 : 0 ≤ v_iv (n_v vs 3) ∧ v_iv (n_v vs 3) ≤ 2000 := tv_rng t3
  obtain ⟨t4, hk⟩ := List.forall_mem_cons.mp hk
  have t4 : tv_ok ta (0, -1, 48, []) (n_v vs 4) := t4
  have k4 : (-1) ≤ v_iv (n_v vs 4) ∧ v_iv (n_v vs 4) ≤ 48 := tv_rng t4
  obtain ⟨t5, hk⟩ := List.forall_mem_cons.mp hk
  have t5 : tv_ok ta (2, 0, 0, [150]) (n_v vs 5) := t5
  have r5 : ta (v_ad (n_v vs 5)) = some 150 := tv_rg t5
  obtain ⟨t7, hk⟩ := List.forall_mem_cons.mp hk
  have t7 : tv_ok ta (0, 9, 9, []) (n_v vs 7) := t7
  have k7 : 9 ≤ v_iv (n_v vs 7) ∧ v_iv (n_v vs 7) ≤ 9 := tv_rng t7
  obtain ⟨t8, hk⟩ := List.forall_mem_cons.mp hk
  have t8 : tv_ok ta (0, -2147483648, 2147483647, []) (n_v vs 8) := t8
  have k8 : (-2147483648) ≤ v_iv (n_v vs 8) ∧ v_iv (n_v vs 8) ≤ 2147483647 := tv_rng t8
  obtain ⟨t9, hk⟩ := List.forall_mem_cons.mp hk
  have t9 : tv_ok ta (0, 0, 0, []) (n_v vs 9) := t9
  have k9 : 0 ≤ v_iv (n_v vs 9) ∧ v_iv (n_v vs 9) ≤ 0 := tv_rng t9
  obtain ⟨t10, hk⟩ := List.forall_mem_cons.mp hk
  have t10 : tv_ok ta (0, 0, 2000, []) (n_v vs 10) := t10
  have k10 : 0 ≤ v_iv (n_v vs 10) ∧ v_iv (n_v vs 10) ≤ 2000 := tv_rng t10
  obtain ⟨t12, hk⟩ := List.forall_mem_cons.mp hk
  have t12 : tv_ok ta (0, 0, 0, []) (n_v vs 12) := t12
  have k12 : 0 ≤ v_iv (n_v vs 12) ∧ v_iv (n_v vs 12) ≤ 0 := tv_rng t12
  have hds : ∀ q ∈ ([(2, 3, -4294967296, 9), (2, 4, -4294967296, 10), (2, 7, -4294967296, 0), (2, 9, -4294967296, 9), (3, 2, -4294967296, 1991), (3, 4, -4294967296, 2001), (3, 7, -4294967296, 1991), (3, 9, -4294967296, 2000), (4, 2, -4294967296, 39), (4, 3, -4294967296, 48), (4, 7, -4294967296, 39), (4, 9, -4294967296, 48), (7, 2, -4294967296, 0), (7, 3, -4294967296, 9), (7, 4, -4294967296, 10), (7, 9, -4294967296, 9), (8, 2, -4294967296, 2147483638), (8, 3, -4294967296, 2147483647), (8, 4, -4294967296, 2147483648), (8, 7, -4294967296, 2147483638), (8, 9, -4294967296, 2147483647), (9, 2, -4294967296, -9), (9, 3, -4294967296, 0), (9, 4, -4294967296, 1), (9, 7, -4294967296, -9)] : List of_T), n_iv vs q.2.1 + q.2.2.1 ≤ n_iv vs q.1 ∧ n_iv vs q.1 ≤ n_iv vs q.2.1 + q.2.2.2 := hds
  obtain ⟨d0, hds⟩ := List.forall_mem_cons.mp hds
  have d0 : v_iv (n_v vs 3) + (-4294967296) ≤ v_iv (n_v vs 2) ∧ v_iv (n_v vs 2) ≤ v_iv (n_v vs 3) + 9 := d0
  obtain ⟨d1, hds⟩ := List.forall_mem_cons.mp hds
  have d1 : v_iv (n_v vs 4) + (-4294967296) ≤ v_iv (n_v vs 2) ∧ v_iv (n_v vs 2) ≤ v_iv (n_v vs 4) + 10 := d1
  obtain ⟨d2, hds⟩ := List.forall_mem_cons.mp hds
  have d2 : v_iv (n_v vs 7) + (-4294967296) ≤ v_iv (n_v vs 2) ∧ v_iv (n_v vs 2) ≤ v_iv (n_v vs 7) + 0 := d2
  obtain ⟨d3, hds⟩ := List.forall_mem_cons.mp hds
  have d3 : v_iv (n_v vs 9) + (-4294967296) ≤ v_iv (n_v vs 2) ∧ v_iv (n_v vs 2) ≤ v_iv (n_v vs 9) + 9 := d3
  obtain ⟨d4, hds⟩ := List.forall_mem_cons.mp hds
  have d4 : v_iv (n_v vs 2) + (-4294967296) ≤ v_iv (n_v vs 3) ∧ v_iv (n_v vs 3) ≤ v_iv (n_v vs 2) + 1991 := d4
  obtain ⟨d5, hds⟩ := List.forall_mem_cons.mp hds
  have d5 : v_iv (n_v vs 4) + (-4294967296) ≤ v_iv (n_v vs 3) ∧ v_iv (n_v vs 3) ≤ v_iv (n_v vs 4) + 2001 := d5
  obtain ⟨d6, hds⟩ := List.forall_mem_cons.mp hds
  have d6 : v_iv (n_v vs 7) + (-4294967296) ≤ v_iv (n_v vs 3) ∧ v_iv (n_v vs 3) ≤ v_iv (n_v vs 7) + 1991 := d6
  obtain ⟨d7, hds⟩ := List.forall_mem_cons.mp hds
  have d7 : v_iv (n_v vs 9) + (-4294967296) ≤ v_iv (n_v vs 3) ∧ v_iv (n_v vs 3) ≤ v_iv (n_v vs 9) + 2000 := d7
  obtain ⟨d8, hds⟩ := List.forall_mem_cons.mp hds
  have d8 : v_iv (n_v vs 2) + (-4294967296) ≤ v_iv (n_v vs 4) ∧ v_iv (n_v vs 4) ≤ v_iv (n_v vs 2) + 39 := d8
  obtain ⟨d9, hds⟩ := List.forall_mem_cons.mp hds
  have d9 : v_iv (n_v vs 3) + (-4294967296) ≤ v_iv (n_v vs 4) ∧ v_iv (n_v vs 4) ≤ v_iv (n_v vs 3) + 48 := d9
  obtain ⟨d10, hds⟩ := List.forall_mem_cons.mp hds
  have d10 : v_iv (n_v vs 7) + (-4294967296) ≤ v_iv (n_v vs 4) ∧ v_iv (n_v vs 4) ≤ v_iv (n_v vs 7) + 39 := d10
  obtain ⟨d11, hds⟩ := List.forall_mem_cons.mp hds
  have d11 : v_iv (n_v vs 9) + (-4294967296) ≤ v_iv (n_v vs 4) ∧ v_iv (n_v vs 4) ≤ v_iv (n_v vs 9) + 48 := d11
  obtain ⟨d12, hds⟩ := List.forall_mem_cons.mp hds
  have d12 : v_iv (n_v vs 2) + (-4294967296) ≤ v_iv (n_v vs 7) ∧ v_iv (n_v vs 7) ≤ v_iv (n_v vs 2) + 0 := d12
  obtain ⟨d13, hds⟩ := List.forall_mem_cons.mp hds
  have d13 : v_iv (n_v vs 3) + (-4294967296) ≤ v_iv (n_v vs 7) ∧ v_iv (n_v vs 7) ≤ v_iv (n_v vs 3) + 9 := d13
  obtain ⟨d14, hds⟩ := List.forall_mem_cons.mp hds
  have d14 : v_iv (n_v vs 4) + (-4294967296) ≤ v_iv (n_v vs 7) ∧ v_iv (n_v vs 7) ≤ v_iv (n_v vs 4) + 10 := d14
  obtain ⟨d15, hds⟩ := List.forall_mem_cons.mp hds
  have d15 : v_iv (n_v vs 9) + (-4294967296) ≤ v_iv (n_v vs 7) ∧ v_iv (n_v vs 7) ≤ v_iv (n_v vs 9) + 9 := d15
  obtain ⟨d16, hds⟩ := List.forall_mem_cons.mp hds
  have d16 : v_iv (n_v vs 2) + (-4294967296) ≤ v_iv (n_v vs 8) ∧ v_iv (n_v vs 8) ≤ v_iv (n_v vs 2) + 2147483638 := d16
  obtain ⟨d17, hds⟩ := List.forall_mem_cons.mp hds
  have d17 : v_iv (n_v vs 3) + (-4294967296) ≤ v_iv (n_v vs 8) ∧ v_iv (n_v vs 8) ≤ v_iv (n_v vs 3) + 2147483647 := d17
  obtain ⟨d18, hds⟩ := List.forall_mem_cons.mp hds
  have d18 : v_iv (n_v vs 4) + (-4294967296) ≤ v_iv (n_v vs 8) ∧ v_iv (n_v vs 8) ≤ v_iv (n_v vs 4) + 2147483648 := d18
  obtain ⟨d19, hds⟩ := List.forall_mem_cons.mp hds
  have d19 : v_iv (n_v vs 7) + (-4294967296) ≤ v_iv (n_v vs 8) ∧ v_iv (n_v vs 8) ≤ v_iv (n_v vs 7) + 2147483638 := d19
  obtain ⟨d20, hds⟩ := List.forall_mem_cons.mp hds
  have d20 : v_iv (n_v vs 9) + (-4294967296) ≤ v_iv (n_v vs 8) ∧ v_iv (n_v vs 8) ≤ v_iv (n_v vs 9) + 2147483647 := d20
  obtain ⟨d21, hds⟩ := List.forall_mem_cons.mp hds
  have d21 : v_iv (n_v vs 2) + (-4294967296) ≤ v_iv (n_v vs 9) ∧ v_iv (n_v vs 9) ≤ v_iv (n_v vs 2) + (-9) := d21
  obtain ⟨d22, hds⟩ := List.forall_mem_cons.mp hds
  have d22 : v_iv (n_v vs 3) + (-4294967296) ≤ v_iv (n_v vs 9) ∧ v_iv (n_v vs 9) ≤ v_iv (n_v vs 3) + 0 := d22
  obtain ⟨d23, hds⟩ := List.forall_mem_cons.mp hds
  have d23 : v_iv (n_v vs 4) + (-4294967296) ≤ v_iv (n_v vs 9) ∧ v_iv (n_v vs 9) ≤ v_iv (n_v vs 4) + 1 := d23
  obtain ⟨d24, hds⟩ := List.forall_mem_cons.mp hds
  have d24 : v_iv (n_v vs 7) + (-4294967296) ≤ v_iv (n_v vs 9) ∧ v_iv (n_v vs 9) ≤ v_iv (n_v vs 7) + (-9) := d24
  have hf : fc_ok [(8, [12], [0]), (20, [12, 5], [50, 2, 0, 1012, 1008, 4, 6, 1, 2, 1, 0, 0, 1, 2, 7, 1, 3, 2, 1, 12, 0, 3, 1, 3, 2, 1, 8, 0, 0]), (8, [9], [0]), (9, [9, 5], [8]), (20, [5, 5], [30, 0, 1, 1, 15, -1, 1, 11]), (20, [5], [50, 3, 0, 12, 11, 15, 2, 21, 4, 7, 1, 3, 2, 0, 12, 0, 1, 0, 3, 2, 0, 11, 4, 3, 2, 0, 15, 0, 8, 3, 7, 1, 3, 2, 0, 12, 0, 0, 0, 7, 4, 3, 2, 0, 15, 0, 1, 2, 0, 11]), (20, [3, 5], [30, -1, 1, 0, 0, -1, 1, 11]), (23, [8, 7], [0, 1, -1]), (23, [8], [0, -1]), (23, [4], [0, -1]), (20, [10, 5], [30, -2001, -1, 0, 0, -1, 1, 11]), (24, [0, 5], []), (24, [2, 7], [])] ta ws vs := hf
  obtain ⟨f0, hf⟩ := fc_un (show (8 : Nat) < 100 from by decide) hf
  have f0 : v_iv (n_v vs 12) = 0 := f0
  obtain ⟨f1, hf⟩ := fc_un (show (20 : Nat) < 100 from by decide) hf
  have f1 : (v_iv (n_v vs 12) = 1) → ((w_fi ws (n_v vs 5) 12 = 3) ∧ (w_fi ws (n_v vs 5) 8 = 0)) := f1
  obtain ⟨f2, hf⟩ := fc_un (show (8 : Nat) < 100 from by decide) hf
  have f2 : v_iv (n_v vs 9) = 0 := f2
  obtain ⟨f3, hf⟩ := fc_un (show (9 : Nat) < 100 from by decide) hf
  have f3 : n_v vs 9 = w_fd ws (v_ad (n_v vs 5)) 8 := f3
  obtain ⟨f4, hf⟩ := fc_un (show (20 : Nat) < 100 from by decide) hf
  have f4 : 1 * w_fi ws (n_v vs 5) 15 + ((-1) * w_fi ws (n_v vs 5) 11 + 0) ≤ 0 := f4
  obtain ⟨f5, hf⟩ := fc_un (show (20 : Nat) < 100 from by decide) hf
  have f5 : ((w_fi ws (n_v vs 5) 12 = 1) → (w_fi ws (n_v vs 5) 11 ≤ (w_fi ws (n_v vs 5) 15 + 8))) ∧ ((w_fi ws (n_v vs 5) 12 = 0) ∨ ((w_fi ws (n_v vs 5) 15 + 1) ≤ w_fi ws (n_v vs 5) 11)) := f5
  obtain ⟨f6, hf⟩ := fc_un (show (20 : Nat) < 100 from by decide) hf
  have f6 : 1 * v_iv (n_v vs 3) + ((-1) * w_fi ws (n_v vs 5) 11 + 0) ≤ (-1) := f6
  obtain ⟨f7, hf⟩ := fc_un (show (23 : Nat) < 100 from by decide) hf
  have f7 : 1 * v_iv (n_v vs 8) + ((-1) * v_iv (n_v vs 7) + 0) ≤ 0 := f7
  obtain ⟨f8, hf⟩ := fc_un (show (23 : Nat) < 100 from by decide) hf
  have f8 : (-1) * v_iv (n_v vs 8) + 0 ≤ 0 := f8
  obtain ⟨f9, hf⟩ := fc_un (show (23 : Nat) < 100 from by decide) hf
  have f9 : (-1) * v_iv (n_v vs 4) + 0 ≤ 0 := f9
  obtain ⟨f10, hf⟩ := fc_un (show (20 : Nat) < 100 from by decide) hf
  have f10 : (-1) * v_iv (n_v vs 10) + ((-1) * w_fi ws (n_v vs 5) 11 + 0) ≤ (-2001) := f10
  obtain ⟨f11, hf⟩ := fc_un (show (24 : Nat) < 100 from by decide) hf
  have f11 : n_v vs 0 = n_v vs 5 := f11
  obtain ⟨f12, hf⟩ := fc_un (show (24 : Nat) < 100 from by decide) hf
  have f12 : n_v vs 2 = n_v vs 7 := f12
  have q5 : n_v vs 5 = n_v vs 0 := f11.symm
  have q7 : n_v vs 7 = n_v vs 2 := f12.symm
  rw [q5] at f1
  rw [q5] at f3
  rw [q5] at f4
  rw [q5] at f5
  rw [q5] at f6
  rw [q7] at f7
  rw [q5] at f10
  have g3 : v_iv (n_v vs 9) = w_fi ws (n_v vs 0) 8 := congrArg v_iv f3
  have kz_0_8 : 0 ≤ w_fi ws (n_v vs 0) 8 ∧ w_fi ws (n_v vs 0) 8 ≤ 5 := tv_rng (th_fd hD hth r0 (g := GG_150) rfl (k := 8) (t := (0, 0, 5, [])) rfl rfl)
  have kz_0_11 : 0 ≤ w_fi ws (n_v vs 0) 11 ∧ w_fi ws (n_v vs 0) 11 ≤ 2000 := tv_rng (th_fd hD hth r0 (g := GG_150) rfl (k := 11) (t := (0, 0, 2000, [])) rfl rfl)
  have kz_0_12 : 0 ≤ w_fi ws (n_v vs 0) 12 ∧ w_fi ws (n_v vs 0) 12 ≤ 4 := tv_rng (th_fd hD hth r0 (g := GG_150) rfl (k := 12) (t := (0, 0, 4, [])) rfl rfl)
  have kz_0_15 : 0 ≤ w_fi ws (n_v vs 0) 15 ∧ w_fi ws (n_v vs 0) 15 ≤ 2000 := tv_rng (th_fd hD hth r0 (g := GG_150) rfl (k := 15) (t := (0, 0, 2000, [])) rfl rfl)
  have kb_0_11 : 0 ≤ w_fi ws (n_v vs 0) 11 ∧ w_fi ws (n_v vs 0) 11 ≤ 2000 := tv_rng (th_fd hD hth r0 (g := GG_150) rfl (k := 11) (t := (0, 0, 2000, [])) rfl rfl)
  obtain ⟨x, ex, hx⟩ := iv_ex (ta := ta) (lo := 0) (hi := 2000) (z := 2000 + ((-1) * w_fi ws (n_v vs 0) 11 + 0)) (by omega) (by omega) (by omega) (by omega)
  have ex2 : v_iv (Value.int x) = 2000 + ((-1) * w_fi ws (n_v vs 0) 11 + 0) := ex
  have ex3 : 0 ≤ v_iv (Value.int x) ∧ v_iv (Value.int x) ≤ 2000 := tv_rng hx
  have e_0 : n_v (vs ++ [Value.int x]) 0 = n_v vs 0 := n_v_old (by rw [hl]; decide)
  have e_2 : n_v (vs ++ [Value.int x]) 2 = n_v vs 2 := n_v_old (by rw [hl]; decide)
  have e_3 : n_v (vs ++ [Value.int x]) 3 = n_v vs 3 := n_v_old (by rw [hl]; decide)
  have e_4 : n_v (vs ++ [Value.int x]) 4 = n_v vs 4 := n_v_old (by rw [hl]; decide)
  have e_5 : n_v (vs ++ [Value.int x]) 5 = n_v vs 5 := n_v_old (by rw [hl]; decide)
  have e_7 : n_v (vs ++ [Value.int x]) 7 = n_v vs 7 := n_v_old (by rw [hl]; decide)
  have e_8 : n_v (vs ++ [Value.int x]) 8 = n_v vs 8 := n_v_old (by rw [hl]; decide)
  have e_13 : n_v (vs ++ [Value.int x]) 13 = Value.int x := n_v_new hl
  have nf0 : fc_1 (20, [5, 5], [30, 0, 1, 1, 15, -1, 1, 11]) ws (vs ++ [Value.int x]) := by
    refine ⟨fun n hn => ?_, ?_⟩
    · have hn : n ∈ [5, 5] := hn
      rw [List.length_append, hl]
      simp only [List.mem_cons, List.not_mem_nil, or_false] at hn
      show n < 13 + 1; omega
    · show 1 * w_fi ws (n_v (vs ++ [Value.int x]) 5) 15 + ((-1) * w_fi ws (n_v (vs ++ [Value.int x]) 5) 11 + 0) ≤ 0
      rw [e_5]
      rw [q5]
      omega
  have nf1 : fc_1 (20, [5], [50, 3, 0, 12, 11, 15, 2, 21, 4, 7, 1, 3, 2, 0, 12, 0, 1, 0, 3, 2, 0, 11, 4, 3, 2, 0, 15, 0, 8, 3, 7, 1, 3, 2, 0, 12, 0, 0, 0, 7, 4, 3, 2, 0, 15, 0, 1, 2, 0, 11]) ws (vs ++ [Value.int x]) := by
    refine ⟨fun n hn => ?_, ?_⟩
    · have hn : n ∈ [5] := hn
      rw [List.length_append, hl]
      simp only [List.mem_cons, List.not_mem_nil, or_false] at hn
      show n < 13 + 1; omega
    · show ((w_fi ws (n_v (vs ++ [Value.int x]) 5) 12 = 1) → (w_fi ws (n_v (vs ++ [Value.int x]) 5) 11 ≤ (w_fi ws (n_v (vs ++ [Value.int x]) 5) 15 + 8))) ∧ ((w_fi ws (n_v (vs ++ [Value.int x]) 5) 12 = 0) ∨ ((w_fi ws (n_v (vs ++ [Value.int x]) 5) 15 + 1) ≤ w_fi ws (n_v (vs ++ [Value.int x]) 5) 11))
      rw [e_5]
      rw [q5]
      first | omega | grind
  have nf2 : fc_1 (20, [3, 5], [30, -1, 1, 0, 0, -1, 1, 11]) ws (vs ++ [Value.int x]) := by
    refine ⟨fun n hn => ?_, ?_⟩
    · have hn : n ∈ [3, 5] := hn
      rw [List.length_append, hl]
      simp only [List.mem_cons, List.not_mem_nil, or_false] at hn
      show n < 13 + 1; omega
    · show 1 * v_iv (n_v (vs ++ [Value.int x]) 3) + ((-1) * w_fi ws (n_v (vs ++ [Value.int x]) 5) 11 + 0) ≤ (-1)
      rw [e_3]
      rw [e_5]
      rw [q5]
      omega
  have nf3 : fc_1 (23, [8, 7], [0, 1, -1]) ws (vs ++ [Value.int x]) := by
    refine ⟨fun n hn => ?_, ?_⟩
    · have hn : n ∈ [8, 7] := hn
      rw [List.length_append, hl]
      simp only [List.mem_cons, List.not_mem_nil, or_false] at hn
      show n < 13 + 1; omega
    · show 1 * v_iv (n_v (vs ++ [Value.int x]) 8) + ((-1) * v_iv (n_v (vs ++ [Value.int x]) 7) + 0) ≤ 0
      rw [e_7]
      rw [e_8]
      rw [q7]
      omega
  have nf4 : fc_1 (23, [8], [0, -1]) ws (vs ++ [Value.int x]) := by
    refine ⟨fun n hn => ?_, ?_⟩
    · have hn : n ∈ [8] := hn
      rw [List.length_append, hl]
      simp only [List.mem_cons, List.not_mem_nil, or_false] at hn
      show n < 13 + 1; omega
    · show (-1) * v_iv (n_v (vs ++ [Value.int x]) 8) + 0 ≤ 0
      rw [e_8]
      omega
  have nf5 : fc_1 (23, [4], [0, -1]) ws (vs ++ [Value.int x]) := by
    refine ⟨fun n hn => ?_, ?_⟩
    · have hn : n ∈ [4] := hn
      rw [List.length_append, hl]
      simp only [List.mem_cons, List.not_mem_nil, or_false] at hn
      show n < 13 + 1; omega
    · show (-1) * v_iv (n_v (vs ++ [Value.int x]) 4) + 0 ≤ 0
      rw [e_4]
      omega
  have nf6 : fc_1 (24, [0, 5], []) ws (vs ++ [Value.int x]) := by
    refine ⟨fun n hn => ?_, ?_⟩
    · have hn : n ∈ [0, 5] := hn
      rw [List.length_append, hl]
      simp only [List.mem_cons, List.not_mem_nil, or_false] at hn
      show n < 13 + 1; omega
    · show n_v (vs ++ [Value.int x]) 0 = n_v (vs ++ [Value.int x]) 5
      first | rfl | simp only [e_0, e_5, q5, q7]
  have nf7 : fc_1 (24, [2, 7], []) ws (vs ++ [Value.int x]) := by
    refine ⟨fun n hn => ?_, ?_⟩
    · have hn : n ∈ [2, 7] := hn
      rw [List.length_append, hl]
      simp only [List.mem_cons, List.not_mem_nil, or_false] at hn
      show n < 13 + 1; omega
    · show n_v (vs ++ [Value.int x]) 2 = n_v (vs ++ [Value.int x]) 7
      first | rfl | simp only [e_2, e_7, q5, q7]
  have nf8 : fc_1 (20, [13, 5], [30, 2000, 1, 0, 0, 1, 1, 11]) ws (vs ++ [Value.int x]) := by
    refine ⟨fun n hn => ?_, ?_⟩
    · have hn : n ∈ [13, 5] := hn
      rw [List.length_append, hl]
      simp only [List.mem_cons, List.not_mem_nil, or_false] at hn
      show n < 13 + 1; omega
    · show 1 * v_iv (n_v (vs ++ [Value.int x]) 13) + (1 * w_fi ws (n_v (vs ++ [Value.int x]) 5) 11 + 0) ≤ 2000
      rw [e_5]
      rw [e_13]
      rw [q5]
      omega
  have nf9 : fc_1 (20, [13, 5], [30, -2000, -1, 0, 0, -1, 1, 11]) ws (vs ++ [Value.int x]) := by
    refine ⟨fun n hn => ?_, ?_⟩
    · have hn : n ∈ [13, 5] := hn
      rw [List.length_append, hl]
      simp only [List.mem_cons, List.not_mem_nil, or_false] at hn
      show n < 13 + 1; omega
    · show (-1) * v_iv (n_v (vs ++ [Value.int x]) 13) + ((-1) * w_fi ws (n_v (vs ++ [Value.int x]) 5) 11 + 0) ≤ (-2000)
      rw [e_5]
      rw [e_13]
      rw [q5]
      omega
  obtain ⟨x0, e0, _, _⟩ := tv_int t10 rfl
  have e1 : v_iv (n_v vs 10) = x0.toInt := by rw [e0]; rfl
  have ho : sy_ofs (vs ++ [Value.int x]) (13, 10, -1000000000000, -1) := by
    refine ⟨x, x0, by rw [List.getElem?_append_right (by rw [hl]; decide), hl]; rfl, ?_, ?_, ?_⟩
    · rw [List.getElem?_append_left (by rw [hl]; decide)]; exact n_v_some (by rw [hl]; decide) e0
    · show x0.toInt + (-1000000000000) ≤ x.toInt; omega
    · show x.toInt ≤ x0.toInt + (-1); omega
  exact ⟨(fun _ h => (by cases h)), [Value.int x], ag_one hx, List.forall_mem_cons.mpr ⟨⟨show (20 : Nat) < 100 from by decide, nf0⟩, List.forall_mem_cons.mpr ⟨⟨show (20 : Nat) < 100 from by decide, nf1⟩, List.forall_mem_cons.mpr ⟨⟨show (20 : Nat) < 100 from by decide, nf2⟩, List.forall_mem_cons.mpr ⟨⟨show (23 : Nat) < 100 from by decide, nf3⟩, List.forall_mem_cons.mpr ⟨⟨show (23 : Nat) < 100 from by decide, nf4⟩, List.forall_mem_cons.mpr ⟨⟨show (23 : Nat) < 100 from by decide, nf5⟩, List.forall_mem_cons.mpr ⟨⟨show (24 : Nat) < 100 from by decide, nf6⟩, List.forall_mem_cons.mpr ⟨⟨show (24 : Nat) < 100 from by decide, nf7⟩, List.forall_mem_cons.mpr ⟨⟨show (20 : Nat) < 100 from by decide, nf8⟩, List.forall_mem_cons.mpr ⟨⟨show (20 : Nat) < 100 from by decide, nf9⟩, (fun _ h => (by cases h))⟩⟩⟩⟩⟩⟩⟩⟩⟩⟩, List.forall_mem_cons.mpr ⟨ho, (fun _ h => (by cases h))⟩⟩
def o_Mo_of_at_s5003_30 : or_T := (158, 14, [(0, (2, 0, 0, [150])), (2, (0, 9, 9, [])), (3, (0, 0, 2000, [])), (5, (2, 0, 0, [150])), (7, (0, 9, 9, [])), (9, (0, 0, 0, [])), (10, (0, 0, 2000, [])), (12, (0, 1, 1, []))], [(8, [12], [1]), (20, [12, 5], [50, 2, 0, 1012, 1008, 4, 6, 1, 2, 1, 0, 0, 1, 2, 7, 1, 3, 2, 1, 12, 0, 3, 1, 3, 2, 1, 8, 0, 0]), (8, [9], [0]), (9, [9, 5], [8]), (20, [5, 5], [30, 0, 1, 1, 15, -1, 1, 11]), (20, [5], [50, 3, 0, 12, 11, 15, 2, 21, 4, 7, 1, 3, 2, 0, 12, 0, 1, 0, 3, 2, 0, 11, 4, 3, 2, 0, 15, 0, 8, 3, 7, 1, 3, 2, 0, 12, 0, 0, 0, 7, 4, 3, 2, 0, 15, 0, 1, 2, 0, 11]), (20, [3, 5], [30, -1, 1, 0, 0, -1, 1, 11]), (20, [10, 5], [30, -2001, -1, 0, 0, -1, 1, 11]), (24, [0, 5], []), (24, [2, 7], [])], [], [(0, 0, 2000, [])], [(23, [14, 3], [0, 1, -1]), (23, [14, 3], [0, -1, 1]), (20, [5, 5], [30, 0, 1, 1, 15, -1, 1, 11]), (20, [5], [50, 3, 0, 12, 11, 15, 2, 21, 4, 7, 1, 3, 2, 0, 12, 0, 1, 0, 3, 2, 0, 11, 4, 3, 2, 0, 15, 0, 8, 3, 7, 1, 3, 2, 0, 12, 0, 0, 0, 7, 4, 3, 2, 0, 15, 0, 1, 2, 0, 11]), (20, [14, 5], [30, 0, 1, 0, 0, -1, 1, 11]), (20, [5, 14], [50, 3, 0, 8, 12, 11, 3, 7, 0, 2, 0, 1, 2, 0, 8, 3, 7, 1, 3, 2, 0, 12, 0, 0, 0, 6, 4, 2, 1, 1, 0, 1, 2, 0, 11])], [], [(2, 3, -4294967296, 9), (2, 7, -4294967296, 0), (2, 9, -4294967296, 9), (3, 2, -4294967296, 1991), (3, 7, -4294967296, 1991), (3, 9, -4294967296, 2000), (7, 2, -4294967296, 0), (7, 3, -4294967296, 9), (7, 9, -4294967296, 9), (9, 2, -4294967296, -9), (9, 3, -4294967296, 0), (9, 7, -4294967296, -9)])
theorem oo_Mo_of_at_s5003_30 {kA : Nat → ClassId} : or_ok kA GG o_Mo_of_at_s5003_30 := by
  intro A ta ws vs hD hth hl hk hds hf
  have hl : vs.length = 14 := hl
  have hk : ∀ q ∈ ([(0, (2, 0, 0, [150])), (2, (0, 9, 9, [])), (3, (0, 0, 2000, [])), (5, (2, 0, 0, [150])), (7, (0, 9, 9, [])), (9, (0, 0, 0, [])), (10, (0, 0, 2000, [])), (12, (0, 1, 1, []))] : List (Nat × tv_T)), tv_ok ta q.2 (n_v vs q.1) := hk
  obtain ⟨t0, hk⟩ := List.forall_mem_cons.mp hk
  have t0 : tv_ok ta (2, 0, 0, [150]) (n_v vs 0) := t0
  have r0 : ta (v_ad (n_v vs 0)) = some 150 := tv_rg t0
  obtain ⟨t2, hk⟩ := List.forall_mem_cons.mp hk
  have t2 : tv_ok ta (0, 9, 9, []) (n_v vs 2) := t2
  have k2 : 9 ≤ v_iv (n_v vs 2) ∧ v_iv (n_v vs 2) ≤ 9 := tv_rng t2
  obtain ⟨t3, hk⟩ := List.forall_mem_cons.mp hk
  have t3 : tv_ok ta (0, 0, 2000, []) (n_v vs 3) := t3
  have k3 : 0 ≤ v_iv (n_v vs 3) ∧ v_iv (n_v vs 3) ≤ 2000 := tv_rng t3
  obtain ⟨t5, hk⟩ := List.forall_mem_cons.mp hk
  have t5 : tv_ok ta (2, 0, 0, [150]) (n_v vs 5) := t5
  have r5 : ta (v_ad (n_v vs 5)) = some 150 := tv_rg t5
  obtain ⟨t7, hk⟩ := List.forall_mem_cons.mp hk
  have t7 : tv_ok ta (0, 9, 9, []) (n_v vs 7) := t7
  have k7 : 9 ≤ v_iv (n_v vs 7) ∧ v_iv (n_v vs 7) ≤ 9 := tv_rng t7
  obtain ⟨t9, hk⟩ := List.forall_mem_cons.mp hk
  have t9 : tv_ok ta (0, 0, 0, []) (n_v vs 9) := t9
  have k9 : 0 ≤ v_iv (n_v vs 9) ∧ v_iv (n_v vs 9) ≤ 0 := tv_rng t9
  obtain ⟨t10, hk⟩ := List.forall_mem_cons.mp hk
  have t10 : tv_ok ta (0, 0, 2000, []) (n_v vs 10) := t10
  have k10 : 0 ≤ v_iv (n_v vs 10) ∧ v_iv (n_v vs 10) ≤ 2000 := tv_rng t10
  obtain ⟨t12, hk⟩ := List.forall_mem_cons.mp hk
  have t12 : tv_ok ta (0, 1, 1, []) (n_v vs 12) := t12
  have k12 : 1 ≤ v_iv (n_v vs 12) ∧ v_iv (n_v vs 12) ≤ 1 := tv_rng t12
  have hds : ∀ q ∈ ([(2, 3, -4294967296, 9), (2, 7, -4294967296, 0), (2, 9, -4294967296, 9), (3, 2, -4294967296, 1991), (3, 7, -4294967296, 1991), (3, 9, -4294967296, 2000), (7, 2, -4294967296, 0), (7, 3, -4294967296, 9), (7, 9, -4294967296, 9), (9, 2, -4294967296, -9), (9, 3, -4294967296, 0), (9, 7, -4294967296, -9)] : List of_T), n_iv vs q.2.1 + q.2.2.1 ≤ n_iv vs q.1 ∧ n_iv vs q.1 ≤ n_iv vs q.2.1 + q.2.2.2 := hds
  obtain ⟨d0, hds⟩ := List.forall_mem_cons.mp hds
  have d0 : v_iv (n_v vs 3) + (-4294967296) ≤ v_iv (n_v vs 2) ∧ v_iv (n_v vs 2) ≤ v_iv (n_v vs 3) + 9 := d0
  obtain ⟨d1, hds⟩ := List.forall_mem_cons.mp hds
  have d1 : v_iv (n_v vs 7) + (-4294967296) ≤ v_iv (n_v vs 2) ∧ v_iv (n_v vs 2) ≤ v_iv (n_v vs 7) + 0 := d1
  obtain ⟨d2, hds⟩ := List.forall_mem_cons.mp hds
  have d2 : v_iv (n_v vs 9) + (-4294967296) ≤ v_iv (n_v vs 2) ∧ v_iv (n_v vs 2) ≤ v_iv (n_v vs 9) + 9 := d2
  obtain ⟨d3, hds⟩ := List.forall_mem_cons.mp hds
  have d3 : v_iv (n_v vs 2) + (-4294967296) ≤ v_iv (n_v vs 3) ∧ v_iv (n_v vs 3) ≤ v_iv (n_v vs 2) + 1991 := d3
  obtain ⟨d4, hds⟩ := List.forall_mem_cons.mp hds
  have d4 : v_iv (n_v vs 7) + (-4294967296) ≤ v_iv (n_v vs 3) ∧ v_iv (n_v vs 3) ≤ v_iv (n_v vs 7) + 1991 := d4
  obtain ⟨d5, hds⟩ := List.forall_mem_cons.mp hds
  have d5 : v_iv (n_v vs 9) + (-4294967296) ≤ v_iv (n_v vs 3) ∧ v_iv (n_v vs 3) ≤ v_iv (n_v vs 9) + 2000 := d5
  obtain ⟨d6, hds⟩ := List.forall_mem_cons.mp hds
  have d6 : v_iv (n_v vs 2) + (-4294967296) ≤ v_iv (n_v vs 7) ∧ v_iv (n_v vs 7) ≤ v_iv (n_v vs 2) + 0 := d6
  obtain ⟨d7, hds⟩ := List.forall_mem_cons.mp hds
  have d7 : v_iv (n_v vs 3) + (-4294967296) ≤ v_iv (n_v vs 7) ∧ v_iv (n_v vs 7) ≤ v_iv (n_v vs 3) + 9 := d7
  obtain ⟨d8, hds⟩ := List.forall_mem_cons.mp hds
  have d8 : v_iv (n_v vs 9) + (-4294967296) ≤ v_iv (n_v vs 7) ∧ v_iv (n_v vs 7) ≤ v_iv (n_v vs 9) + 9 := d8
  obtain ⟨d9, hds⟩ := List.forall_mem_cons.mp hds
  have d9 : v_iv (n_v vs 2) + (-4294967296) ≤ v_iv (n_v vs 9) ∧ v_iv (n_v vs 9) ≤ v_iv (n_v vs 2) + (-9) := d9
  obtain ⟨d10, hds⟩ := List.forall_mem_cons.mp hds
  have d10 : v_iv (n_v vs 3) + (-4294967296) ≤ v_iv (n_v vs 9) ∧ v_iv (n_v vs 9) ≤ v_iv (n_v vs 3) + 0 := d10
  obtain ⟨d11, hds⟩ := List.forall_mem_cons.mp hds
  have d11 : v_iv (n_v vs 7) + (-4294967296) ≤ v_iv (n_v vs 9) ∧ v_iv (n_v vs 9) ≤ v_iv (n_v vs 7) + (-9) := d11
  have hf : fc_ok [(8, [12], [1]), (20, [12, 5], [50, 2, 0, 1012, 1008, 4, 6, 1, 2, 1, 0, 0, 1, 2, 7, 1, 3, 2, 1, 12, 0, 3, 1, 3, 2, 1, 8, 0, 0]), (8, [9], [0]), (9, [9, 5], [8]), (20, [5, 5], [30, 0, 1, 1, 15, -1, 1, 11]), (20, [5], [50, 3, 0, 12, 11, 15, 2, 21, 4, 7, 1, 3, 2, 0, 12, 0, 1, 0, 3, 2, 0, 11, 4, 3, 2, 0, 15, 0, 8, 3, 7, 1, 3, 2, 0, 12, 0, 0, 0, 7, 4, 3, 2, 0, 15, 0, 1, 2, 0, 11]), (20, [3, 5], [30, -1, 1, 0, 0, -1, 1, 11]), (20, [10, 5], [30, -2001, -1, 0, 0, -1, 1, 11]), (24, [0, 5], []), (24, [2, 7], [])] ta ws vs := hf
  obtain ⟨f0, hf⟩ := fc_un (show (8 : Nat) < 100 from by decide) hf
  have f0 : v_iv (n_v vs 12) ≠ 0 := f0
  obtain ⟨f1, hf⟩ := fc_un (show (20 : Nat) < 100 from by decide) hf
  have f1 : (v_iv (n_v vs 12) = 1) → ((w_fi ws (n_v vs 5) 12 = 3) ∧ (w_fi ws (n_v vs 5) 8 = 0)) := f1
  obtain ⟨f2, hf⟩ := fc_un (show (8 : Nat) < 100 from by decide) hf
  have f2 : v_iv (n_v vs 9) = 0 := f2
  obtain ⟨f3, hf⟩ := fc_un (show (9 : Nat) < 100 from by decide) hf
  have f3 : n_v vs 9 = w_fd ws (v_ad (n_v vs 5)) 8 := f3
  obtain ⟨f4, hf⟩ := fc_un (show (20 : Nat) < 100 from by decide) hf
  have f4 : 1 * w_fi ws (n_v vs 5) 15 + ((-1) * w_fi ws (n_v vs 5) 11 + 0) ≤ 0 := f4
  obtain ⟨f5, hf⟩ := fc_un (show (20 : Nat) < 100 from by decide) hf
  have f5 : ((w_fi ws (n_v vs 5) 12 = 1) → (w_fi ws (n_v vs 5) 11 ≤ (w_fi ws (n_v vs 5) 15 + 8))) ∧ ((w_fi ws (n_v vs 5) 12 = 0) ∨ ((w_fi ws (n_v vs 5) 15 + 1) ≤ w_fi ws (n_v vs 5) 11)) := f5
  obtain ⟨f6, hf⟩ := fc_un (show (20 : Nat) < 100 from by decide) hf
  have f6 : 1 * v_iv (n_v vs 3) + ((-1) * w_fi ws (n_v vs 5) 11 + 0) ≤ (-1) := f6
  obtain ⟨f7, hf⟩ := fc_un (show (20 : Nat) < 100 from by decide) hf
  have f7 : (-1) * v_iv (n_v vs 10) + ((-1) * w_fi ws (n_v vs 5) 11 + 0) ≤ (-2001) := f7
  obtain ⟨f8, hf⟩ := fc_un (show (24 : Nat) < 100 from by decide) hf
  have f8 : n_v vs 0 = n_v vs 5 := f8
  obtain ⟨f9, hf⟩ := fc_un (show (24 : Nat) < 100 from by decide) hf
  have f9 : n_v vs 2 = n_v vs 7 := f9
  have q5 : n_v vs 5 = n_v vs 0 := f8.symm
  have q7 : n_v vs 7 = n_v vs 2 := f9.symm
  rw [q5] at f1
  rw [q5] at f3
  rw [q5] at f4
  rw [q5] at f5
  rw [q5] at f6
  rw [q5] at f7
  have g3 : v_iv (n_v vs 9) = w_fi ws (n_v vs 0) 8 := congrArg v_iv f3
  have kz_0_8 : 0 ≤ w_fi ws (n_v vs 0) 8 ∧ w_fi ws (n_v vs 0) 8 ≤ 5 := tv_rng (th_fd hD hth r0 (g := GG_150) rfl (k := 8) (t := (0, 0, 5, [])) rfl rfl)
  have kz_0_11 : 0 ≤ w_fi ws (n_v vs 0) 11 ∧ w_fi ws (n_v vs 0) 11 ≤ 2000 := tv_rng (th_fd hD hth r0 (g := GG_150) rfl (k := 11) (t := (0, 0, 2000, [])) rfl rfl)
  have kz_0_12 : 0 ≤ w_fi ws (n_v vs 0) 12 ∧ w_fi ws (n_v vs 0) 12 ≤ 4 := tv_rng (th_fd hD hth r0 (g := GG_150) rfl (k := 12) (t := (0, 0, 4, [])) rfl rfl)
  have kz_0_15 : 0 ≤ w_fi ws (n_v vs 0) 15 ∧ w_fi ws (n_v vs 0) 15 ≤ 2000 := tv_rng (th_fd hD hth r0 (g := GG_150) rfl (k := 15) (t := (0, 0, 2000, [])) rfl rfl)
  obtain ⟨x, ex, hx⟩ := iv_ex (ta := ta) (lo := 0) (hi := 2000) (z := v_iv (n_v vs 3)) (by omega) (by omega) (by omega) (by omega)
  have ex2 : v_iv (Value.int x) = v_iv (n_v vs 3) := ex
  have ex3 : 0 ≤ v_iv (Value.int x) ∧ v_iv (Value.int x) ≤ 2000 := tv_rng hx
  have e_3 : n_v (vs ++ [Value.int x]) 3 = n_v vs 3 := n_v_old (by rw [hl]; decide)
  have e_5 : n_v (vs ++ [Value.int x]) 5 = n_v vs 5 := n_v_old (by rw [hl]; decide)
  have e_14 : n_v (vs ++ [Value.int x]) 14 = Value.int x := n_v_new hl
  have nf0 : fc_1 (23, [14, 3], [0, 1, -1]) ws (vs ++ [Value.int x]) := by
    refine ⟨fun n hn => ?_, ?_⟩
    · have hn : n ∈ [14, 3] := hn
      rw [List.length_append, hl]
      simp only [List.mem_cons, List.not_mem_nil, or_false] at hn
      show n < 14 + 1; omega
    · show 1 * v_iv (n_v (vs ++ [Value.int x]) 14) + ((-1) * v_iv (n_v (vs ++ [Value.int x]) 3) + 0) ≤ 0
      rw [e_3]
      rw [e_14]
      omega
  have nf1 : fc_1 (23, [14, 3], [0, -1, 1]) ws (vs ++ [Value.int x]) := by
    refine ⟨fun n hn => ?_, ?_⟩
    · have hn : n ∈ [14, 3] := hn
      rw [List.length_append, hl]
      simp only [List.mem_cons, List.not_mem_nil, or_false] at hn
      show n < 14 + 1; omega
    · show (-1) * v_iv (n_v (vs ++ [Value.int x]) 14) + (1 * v_iv (n_v (vs ++ [Value.int x]) 3) + 0) ≤ 0
      rw [e_3]
      rw [e_14]
      omega
  have nf2 : fc_1 (20, [5, 5], [30, 0, 1, 1, 15, -1, 1, 11]) ws (vs ++ [Value.int x]) := by
    refine ⟨fun n hn => ?_, ?_⟩
    · have hn : n ∈ [5, 5] := hn
      rw [List.length_append, hl]
      simp only [List.mem_cons, List.not_mem_nil, or_false] at hn
      show n < 14 + 1; omega
    · show 1 * w_fi ws (n_v (vs ++ [Value.int x]) 5) 15 + ((-1) * w_fi ws (n_v (vs ++ [Value.int x]) 5) 11 + 0) ≤ 0
      rw [e_5]
      rw [q5]
      omega
  have nf3 : fc_1 (20, [5], [50, 3, 0, 12, 11, 15, 2, 21, 4, 7, 1, 3, 2, 0, 12, 0, 1, 0, 3, 2, 0, 11, 4, 3, 2, 0, 15, 0, 8, 3, 7, 1, 3, 2, 0, 12, 0, 0, 0, 7, 4, 3, 2, 0, 15, 0, 1, 2, 0, 11]) ws (vs ++ [Value.int x]) := by
    refine ⟨fun n hn => ?_, ?_⟩
    · have hn : n ∈ [5] := hn
      rw [List.length_append, hl]
      simp only [List.mem_cons, List.not_mem_nil, or_false] at hn
      show n < 14 + 1; omega
    · show ((w_fi ws (n_v (vs ++ [Value.int x]) 5) 12 = 1) → (w_fi ws (n_v (vs ++ [Value.int x]) 5) 11 ≤ (w_fi ws (n_v (vs ++ [Value.int x]) 5) 15 + 8))) ∧ ((w_fi ws (n_v (vs ++ [Value.int x]) 5) 12 = 0) ∨ ((w_fi ws (n_v (vs ++ [Value.int x]) 5) 15 + 1) ≤ w_fi ws (n_v (vs ++ [Value.int x]) 5) 11))
      rw [e_5]
      rw [q5]
      first | omega | grind
  have nf4 : fc_1 (20, [14, 5], [30, 0, 1, 0, 0, -1, 1, 11]) ws (vs ++ [Value.int x]) := by
    refine ⟨fun n hn => ?_, ?_⟩
    · have hn : n ∈ [14, 5] := hn
      rw [List.length_append, hl]
      simp only [List.mem_cons, List.not_mem_nil, or_false] at hn
      show n < 14 + 1; omega
    · show 1 * v_iv (n_v (vs ++ [Value.int x]) 14) + ((-1) * w_fi ws (n_v (vs ++ [Value.int x]) 5) 11 + 0) ≤ 0
      rw [e_5]
      rw [e_14]
      rw [q5]
      omega
  have nf5 : fc_1 (20, [5, 14], [50, 3, 0, 8, 12, 11, 3, 7, 0, 2, 0, 1, 2, 0, 8, 3, 7, 1, 3, 2, 0, 12, 0, 0, 0, 6, 4, 2, 1, 1, 0, 1, 2, 0, 11]) ws (vs ++ [Value.int x]) := by
    refine ⟨fun n hn => ?_, ?_⟩
    · have hn : n ∈ [5, 14] := hn
      rw [List.length_append, hl]
      simp only [List.mem_cons, List.not_mem_nil, or_false] at hn
      show n < 14 + 1; omega
    · show (1 ≤ w_fi ws (n_v (vs ++ [Value.int x]) 5) 8) ∨ ((w_fi ws (n_v (vs ++ [Value.int x]) 5) 12 = 0) ∨ ((v_iv (n_v (vs ++ [Value.int x]) 14) + 1) ≤ w_fi ws (n_v (vs ++ [Value.int x]) 5) 11))
      rw [e_5]
      rw [e_14]
      rw [q5]
      first | omega | grind
  exact ⟨(fun _ h => (by cases h)), [Value.int x], ag_one hx, List.forall_mem_cons.mpr ⟨⟨show (23 : Nat) < 100 from by decide, nf0⟩, List.forall_mem_cons.mpr ⟨⟨show (23 : Nat) < 100 from by decide, nf1⟩, List.forall_mem_cons.mpr ⟨⟨show (20 : Nat) < 100 from by decide, nf2⟩, List.forall_mem_cons.mpr ⟨⟨show (20 : Nat) < 100 from by decide, nf3⟩, List.forall_mem_cons.mpr ⟨⟨show (20 : Nat) < 100 from by decide, nf4⟩, List.forall_mem_cons.mpr ⟨⟨show (20 : Nat) < 100 from by decide, nf5⟩, (fun _ h => (by cases h))⟩⟩⟩⟩⟩⟩, (fun _ h => (by cases h))⟩
def o_Mo_of_at_s5003_31 : or_T := (162, 15, [(0, (2, 0, 0, [150])), (2, (0, 9, 9, [])), (3, (0, 0, 2000, [])), (4, (0, -1, 48, [])), (5, (2, 0, 0, [150])), (7, (0, 9, 9, [])), (8, (0, -2147483648, 2147483647, [])), (14, (0, 0, 2000, []))], [(23, [14, 3], [0, 1, -1]), (23, [14, 3], [0, -1, 1]), (23, [8, 7], [0, 1, -1]), (23, [8], [0, -1]), (23, [4], [0, -1]), (24, [0, 5], []), (24, [2, 7], []), (20, [5, 5], [30, 0, 1, 1, 15, -1, 1, 11]), (20, [5], [50, 3, 0, 12, 11, 15, 2, 21, 4, 7, 1, 3, 2, 0, 12, 0, 1, 0, 3, 2, 0, 11, 4, 3, 2, 0, 15, 0, 8, 3, 7, 1, 3, 2, 0, 12, 0, 0, 0, 7, 4, 3, 2, 0, 15, 0, 1, 2, 0, 11]), (20, [14, 5], [30, 0, 1, 0, 0, -1, 1, 11]), (20, [5, 14], [50, 2, 0, 8, 11, 3, 7, 0, 2, 0, 1, 2, 0, 8, 0, 6, 4, 2, 1, 1, 0, 1, 2, 0, 11]), (102, [14], [0, 13008, 13009, 13011, 13012, 13013, 13014, 13015]), (23, [14, 3], [0, 1, -1]), (23, [14, 3], [0, -1, 1]), (23, [8, 7], [0, 1, -1]), (23, [8], [0, -1]), (23, [4], [0, -1])], [], [], [(20, [0, 0], [30, 0, 1, 1, 15, -1, 1, 11]), (20, [0], [50, 3, 0, 12, 11, 15, 2, 21, 4, 7, 1, 3, 2, 0, 12, 0, 1, 0, 3, 2, 0, 11, 4, 3, 2, 0, 15, 0, 8, 3, 7, 1, 3, 2, 0, 12, 0, 0, 0, 7, 4, 3, 2, 0, 15, 0, 1, 2, 0, 11]), (20, [3, 0], [30, 0, 1, 0, 0, -1, 1, 11]), (20, [0, 3], [50, 3, 0, 8, 12, 11, 3, 7, 0, 2, 0, 1, 2, 0, 8, 3, 7, 1, 3, 2, 0, 12, 0, 0, 0, 6, 4, 2, 1, 1, 0, 1, 2, 0, 11]), (20, [0, 4], [50, 1, 0, 8, 3, 7, 0, 2, 0, 1, 2, 0, 8, 0, 2, 0, 0, 1, 1]), (20, [8, 2], [30, 0, 1, 0, 0, -1, 0, 0]), (20, [8], [30, 0, -1, 0, 0])], [], [(2, 3, -4294967296, 9), (2, 4, -4294967296, 10), (2, 7, -4294967296, 0), (3, 2, -4294967296, 1991), (3, 4, -4294967296, 2001), (3, 7, -4294967296, 1991), (4, 2, -4294967296, 39), (4, 3, -4294967296, 48), (4, 7, -4294967296, 39), (7, 2, -4294967296, 0), (7, 3, -4294967296, 9), (7, 4, -4294967296, 10), (8, 2, -4294967296, 2147483638), (8, 3, -4294967296, 2147483647), (8, 4, -4294967296, 2147483648), (8, 7, -4294967296, 2147483638)])
theorem oo_Mo_of_at_s5003_31 {kA : Nat → ClassId} : or_ok kA GG o_Mo_of_at_s5003_31 := by
  intro A ta ws vs hD hth hl hk hds hf
  have hl : vs.length = 15 := hl
  have hk : ∀ q ∈ ([(0, (2, 0, 0, [150])), (2, (0, 9, 9, [])), (3, (0, 0, 2000, [])), (4, (0, -1, 48, [])), (5, (2, 0, 0, [150])), (7, (0, 9, 9, [])), (8, (0, -2147483648, 2147483647, [])), (14, (0, 0, 2000, []))] : List (Nat × tv_T)), tv_ok ta q.2 (n_v vs q.1) := hk
  obtain ⟨t0, hk⟩ := List.forall_mem_cons.mp hk
  have t0 : tv_ok ta (2, 0, 0, [150]) (n_v vs 0) := t0
  have r0 : ta (v_ad (n_v vs 0)) = some 150 := tv_rg t0
  obtain ⟨t2, hk⟩ := List.forall_mem_cons.mp hk
  have t2 : tv_ok ta (0, 9, 9, []) (n_v vs 2) := t2
  have k2 : 9 ≤ v_iv (n_v vs 2) ∧ v_iv (n_v vs 2) ≤ 9 := tv_rng t2
  obtain ⟨t3, hk⟩ := List.forall_mem_cons.mp hk
  have t3 : tv_ok ta (0, 0, 2000, []) (n_v vs 3) := t3
  have k3 : 0 ≤ v_iv (n_v vs 3) ∧ v_iv (n_v vs 3) ≤ 2000 := tv_rng t3
  obtain ⟨t4, hk⟩ := List.forall_mem_cons.mp hk
  have t4 : tv_ok ta (0, -1, 48, []) (n_v vs 4) := t4
  have k4 : (-1) ≤ v_iv (n_v vs 4) ∧ v_iv (n_v vs 4) ≤ 48 := tv_rng t4
  obtain ⟨t5, hk⟩ := List.forall_mem_cons.mp hk
  have t5 : tv_ok ta (2, 0, 0, [150]) (n_v vs 5) := t5
  have r5 : ta (v_ad (n_v vs 5)) = some 150 := tv_rg t5
  obtain ⟨t7, hk⟩ := List.forall_mem_cons.mp hk
  have t7 : tv_ok ta (0, 9, 9, []) (n_v vs 7) := t7
  have k7 : 9 ≤ v_iv (n_v vs 7) ∧ v_iv (n_v vs 7) ≤ 9 := tv_rng t7
  obtain ⟨t8, hk⟩ := List.forall_mem_cons.mp hk
  have t8 : tv_ok ta (0, -2147483648, 2147483647, []) (n_v vs 8) := t8
  have k8 : (-2147483648) ≤ v_iv (n_v vs 8) ∧ v_iv (n_v vs 8) ≤ 2147483647 := tv_rng t8
  obtain ⟨t14, hk⟩ := List.forall_mem_cons.mp hk
  have t14 : tv_ok ta (0, 0, 2000, []) (n_v vs 14) := t14
  have k14 : 0 ≤ v_iv (n_v vs 14) ∧ v_iv (n_v vs 14) ≤ 2000 := tv_rng t14
  have hds : ∀ q ∈ ([(2, 3, -4294967296, 9), (2, 4, -4294967296, 10), (2, 7, -4294967296, 0), (3, 2, -4294967296, 1991), (3, 4, -4294967296, 2001), (3, 7, -4294967296, 1991), (4, 2, -4294967296, 39), (4, 3, -4294967296, 48), (4, 7, -4294967296, 39), (7, 2, -4294967296, 0), (7, 3, -4294967296, 9), (7, 4, -4294967296, 10), (8, 2, -4294967296, 2147483638), (8, 3, -4294967296, 2147483647), (8, 4, -4294967296, 2147483648), (8, 7, -4294967296, 2147483638)] : List of_T), n_iv vs q.2.1 + q.2.2.1 ≤ n_iv vs q.1 ∧ n_iv vs q.1 ≤ n_iv vs q.2.1 + q.2.2.2 := hds
  obtain ⟨d0, hds⟩ := List.forall_mem_cons.mp hds
  have d0 : v_iv (n_v vs 3) + (-4294967296) ≤ v_iv (n_v vs 2) ∧ v_iv (n_v vs 2) ≤ v_iv (n_v vs 3) + 9 := d0
  obtain ⟨d1, hds⟩ := List.forall_mem_cons.mp hds
  have d1 : v_iv (n_v vs 4) + (-4294967296) ≤ v_iv (n_v vs 2) ∧ v_iv (n_v vs 2) ≤ v_iv (n_v vs 4) + 10 := d1
  obtain ⟨d2, hds⟩ := List.forall_mem_cons.mp hds
  have d2 : v_iv (n_v vs 7) + (-4294967296) ≤ v_iv (n_v vs 2) ∧ v_iv (n_v vs 2) ≤ v_iv (n_v vs 7) + 0 := d2
  obtain ⟨d3, hds⟩ := List.forall_mem_cons.mp hds
  have d3 : v_iv (n_v vs 2) + (-4294967296) ≤ v_iv (n_v vs 3) ∧ v_iv (n_v vs 3) ≤ v_iv (n_v vs 2) + 1991 := d3
  obtain ⟨d4, hds⟩ := List.forall_mem_cons.mp hds
  have d4 : v_iv (n_v vs 4) + (-4294967296) ≤ v_iv (n_v vs 3) ∧ v_iv (n_v vs 3) ≤ v_iv (n_v vs 4) + 2001 := d4
  obtain ⟨d5, hds⟩ := List.forall_mem_cons.mp hds
  have d5 : v_iv (n_v vs 7) + (-4294967296) ≤ v_iv (n_v vs 3) ∧ v_iv (n_v vs 3) ≤ v_iv (n_v vs 7) + 1991 := d5
  obtain ⟨d6, hds⟩ := List.forall_mem_cons.mp hds
  have d6 : v_iv (n_v vs 2) + (-4294967296) ≤ v_iv (n_v vs 4) ∧ v_iv (n_v vs 4) ≤ v_iv (n_v vs 2) + 39 := d6
  obtain ⟨d7, hds⟩ := List.forall_mem_cons.mp hds
  have d7 : v_iv (n_v vs 3) + (-4294967296) ≤ v_iv (n_v vs 4) ∧ v_iv (n_v vs 4) ≤ v_iv (n_v vs 3) + 48 := d7
  obtain ⟨d8, hds⟩ := List.forall_mem_cons.mp hds
  have d8 : v_iv (n_v vs 7) + (-4294967296) ≤ v_iv (n_v vs 4) ∧ v_iv (n_v vs 4) ≤ v_iv (n_v vs 7) + 39 := d8
  obtain ⟨d9, hds⟩ := List.forall_mem_cons.mp hds
  have d9 : v_iv (n_v vs 2) + (-4294967296) ≤ v_iv (n_v vs 7) ∧ v_iv (n_v vs 7) ≤ v_iv (n_v vs 2) + 0 := d9
  obtain ⟨d10, hds⟩ := List.forall_mem_cons.mp hds
  have d10 : v_iv (n_v vs 3) + (-4294967296) ≤ v_iv (n_v vs 7) ∧ v_iv (n_v vs 7) ≤ v_iv (n_v vs 3) + 9 := d10
  obtain ⟨d11, hds⟩ := List.forall_mem_cons.mp hds
  have d11 : v_iv (n_v vs 4) + (-4294967296) ≤ v_iv (n_v vs 7) ∧ v_iv (n_v vs 7) ≤ v_iv (n_v vs 4) + 10 := d11
  obtain ⟨d12, hds⟩ := List.forall_mem_cons.mp hds
  have d12 : v_iv (n_v vs 2) + (-4294967296) ≤ v_iv (n_v vs 8) ∧ v_iv (n_v vs 8) ≤ v_iv (n_v vs 2) + 2147483638 := d12
  obtain ⟨d13, hds⟩ := List.forall_mem_cons.mp hds
  have d13 : v_iv (n_v vs 3) + (-4294967296) ≤ v_iv (n_v vs 8) ∧ v_iv (n_v vs 8) ≤ v_iv (n_v vs 3) + 2147483647 := d13
  obtain ⟨d14, hds⟩ := List.forall_mem_cons.mp hds
  have d14 : v_iv (n_v vs 4) + (-4294967296) ≤ v_iv (n_v vs 8) ∧ v_iv (n_v vs 8) ≤ v_iv (n_v vs 4) + 2147483648 := d14
  obtain ⟨d15, hds⟩ := List.forall_mem_cons.mp hds
  have d15 : v_iv (n_v vs 7) + (-4294967296) ≤ v_iv (n_v vs 8) ∧ v_iv (n_v vs 8) ≤ v_iv (n_v vs 7) + 2147483638 := d15
  have hf : fc_ok [(23, [14, 3], [0, 1, -1]), (23, [14, 3], [0, -1, 1]), (23, [8, 7], [0, 1, -1]), (23, [8], [0, -1]), (23, [4], [0, -1]), (24, [0, 5], []), (24, [2, 7], []), (20, [5, 5], [30, 0, 1, 1, 15, -1, 1, 11]), (20, [5], [50, 3, 0, 12, 11, 15, 2, 21, 4, 7, 1, 3, 2, 0, 12, 0, 1, 0, 3, 2, 0, 11, 4, 3, 2, 0, 15, 0, 8, 3, 7, 1, 3, 2, 0, 12, 0, 0, 0, 7, 4, 3, 2, 0, 15, 0, 1, 2, 0, 11]), (20, [14, 5], [30, 0, 1, 0, 0, -1, 1, 11]), (20, [5, 14], [50, 2, 0, 8, 11, 3, 7, 0, 2, 0, 1, 2, 0, 8, 0, 6, 4, 2, 1, 1, 0, 1, 2, 0, 11]), (102, [14], [0, 13008, 13009, 13011, 13012, 13013, 13014, 13015]), (23, [14, 3], [0, 1, -1]), (23, [14, 3], [0, -1, 1]), (23, [8, 7], [0, 1, -1]), (23, [8], [0, -1]), (23, [4], [0, -1])] ta ws vs := hf
  obtain ⟨f0, hf⟩ := fc_un (show (23 : Nat) < 100 from by decide) hf
  have f0 : 1 * v_iv (n_v vs 14) + ((-1) * v_iv (n_v vs 3) + 0) ≤ 0 := f0
  obtain ⟨f1, hf⟩ := fc_un (show (23 : Nat) < 100 from by decide) hf
  have f1 : (-1) * v_iv (n_v vs 14) + (1 * v_iv (n_v vs 3) + 0) ≤ 0 := f1
  obtain ⟨f2, hf⟩ := fc_un (show (23 : Nat) < 100 from by decide) hf
  have f2 : 1 * v_iv (n_v vs 8) + ((-1) * v_iv (n_v vs 7) + 0) ≤ 0 := f2
  obtain ⟨f3, hf⟩ := fc_un (show (23 : Nat) < 100 from by decide) hf
  have f3 : (-1) * v_iv (n_v vs 8) + 0 ≤ 0 := f3
  obtain ⟨f4, hf⟩ := fc_un (show (23 : Nat) < 100 from by decide) hf
  have f4 : (-1) * v_iv (n_v vs 4) + 0 ≤ 0 := f4
  obtain ⟨f5, hf⟩ := fc_un (show (24 : Nat) < 100 from by decide) hf
  have f5 : n_v vs 0 = n_v vs 5 := f5
  obtain ⟨f6, hf⟩ := fc_un (show (24 : Nat) < 100 from by decide) hf
  have f6 : n_v vs 2 = n_v vs 7 := f6
  obtain ⟨f7, hf⟩ := fc_un (show (20 : Nat) < 100 from by decide) hf
  have f7 : 1 * w_fi ws (n_v vs 5) 15 + ((-1) * w_fi ws (n_v vs 5) 11 + 0) ≤ 0 := f7
  obtain ⟨f8, hf⟩ := fc_un (show (20 : Nat) < 100 from by decide) hf
  have f8 : ((w_fi ws (n_v vs 5) 12 = 1) → (w_fi ws (n_v vs 5) 11 ≤ (w_fi ws (n_v vs 5) 15 + 8))) ∧ ((w_fi ws (n_v vs 5) 12 = 0) ∨ ((w_fi ws (n_v vs 5) 15 + 1) ≤ w_fi ws (n_v vs 5) 11)) := f8
  obtain ⟨f9, hf⟩ := fc_un (show (20 : Nat) < 100 from by decide) hf
  have f9 : 1 * v_iv (n_v vs 14) + ((-1) * w_fi ws (n_v vs 5) 11 + 0) ≤ 0 := f9
  obtain ⟨f10, hf⟩ := fc_un (show (20 : Nat) < 100 from by decide) hf
  have f10 : (1 ≤ w_fi ws (n_v vs 5) 8) ∨ ((v_iv (n_v vs 14) + 1) ≤ w_fi ws (n_v vs 5) 11) := f10
  obtain ⟨ta1, w1, le1, ⟨_, s1⟩, hf⟩ := fc_us (show ¬ (102 : Nat) < 100 from by decide) hf
  obtain ⟨f12, hf⟩ := fc_un (show (23 : Nat) < 100 from by decide) hf
  have f12 : 1 * v_iv (n_v vs 14) + ((-1) * v_iv (n_v vs 3) + 0) ≤ 0 := f12
  obtain ⟨f13, hf⟩ := fc_un (show (23 : Nat) < 100 from by decide) hf
  have f13 : (-1) * v_iv (n_v vs 14) + (1 * v_iv (n_v vs 3) + 0) ≤ 0 := f13
  obtain ⟨f14, hf⟩ := fc_un (show (23 : Nat) < 100 from by decide) hf
  have f14 : 1 * v_iv (n_v vs 8) + ((-1) * v_iv (n_v vs 7) + 0) ≤ 0 := f14
  obtain ⟨f15, hf⟩ := fc_un (show (23 : Nat) < 100 from by decide) hf
  have f15 : (-1) * v_iv (n_v vs 8) + 0 ≤ 0 := f15
  obtain ⟨f16, hf⟩ := fc_un (show (23 : Nat) < 100 from by decide) hf
  have f16 : (-1) * v_iv (n_v vs 4) + 0 ≤ 0 := f16
  have q5 : n_v vs 5 = n_v vs 0 := f5.symm
  have q7 : n_v vs 7 = n_v vs 2 := f6.symm
  rw [q7] at f2
  rw [q5] at f7
  rw [q5] at f8
  rw [q5] at f9
  rw [q5] at f10
  rw [q7] at f14
  have kz_0_8 : 0 ≤ w_fi ws (n_v vs 0) 8 ∧ w_fi ws (n_v vs 0) 8 ≤ 5 := tv_rng (th_fd hD hth r0 (g := GG_150) rfl (k := 8) (t := (0, 0, 5, [])) rfl rfl)
  have kz_0_11 : 0 ≤ w_fi ws (n_v vs 0) 11 ∧ w_fi ws (n_v vs 0) 11 ≤ 2000 := tv_rng (th_fd hD hth r0 (g := GG_150) rfl (k := 11) (t := (0, 0, 2000, [])) rfl rfl)
  have kz_0_12 : 0 ≤ w_fi ws (n_v vs 0) 12 ∧ w_fi ws (n_v vs 0) 12 ≤ 4 := tv_rng (th_fd hD hth r0 (g := GG_150) rfl (k := 12) (t := (0, 0, 4, [])) rfl rfl)
  have kz_0_15 : 0 ≤ w_fi ws (n_v vs 0) 15 ∧ w_fi ws (n_v vs 0) 15 ≤ 2000 := tv_rng (th_fd hD hth r0 (g := GG_150) rfl (k := 15) (t := (0, 0, 2000, [])) rfl rfl)
  have nf0 : fc_1 (20, [0, 0], [30, 0, 1, 1, 15, -1, 1, 11]) ws (vs) := by
    refine ⟨fun n hn => ?_, ?_⟩
    · have hn : n ∈ [0, 0] := hn
      rw [hl]
      simp only [List.mem_cons, List.not_mem_nil, or_false] at hn
      show n < 15; omega
    · show 1 * w_fi ws (n_v vs 0) 15 + ((-1) * w_fi ws (n_v vs 0) 11 + 0) ≤ 0
      omega
  have nf1 : fc_1 (20, [0], [50, 3, 0, 12, 11, 15, 2, 21, 4, 7, 1, 3, 2, 0, 12, 0, 1, 0, 3, 2, 0, 11, 4, 3, 2, 0, 15, 0, 8, 3, 7, 1, 3, 2, 0, 12, 0, 0, 0, 7, 4, 3, 2, 0, 15, 0, 1, 2, 0, 11]) ws (vs) := by
    refine ⟨fun n hn => ?_, ?_⟩
    · have hn : n ∈ [0] := hn
      rw [hl]
      simp only [List.mem_cons, List.not_mem_nil, or_false] at hn
      show n < 15; omega
    · show ((w_fi ws (n_v vs 0) 12 = 1) → (w_fi ws (n_v vs 0) 11 ≤ (w_fi ws (n_v vs 0) 15 + 8))) ∧ ((w_fi ws (n_v vs 0) 12 = 0) ∨ ((w_fi ws (n_v vs 0) 15 + 1) ≤ w_fi ws (n_v vs 0) 11))
      first | omega | grind
  have nf2 : fc_1 (20, [3, 0], [30, 0, 1, 0, 0, -1, 1, 11]) ws (vs) := by
    refine ⟨fun n hn => ?_, ?_⟩
    · have hn : n ∈ [3, 0] := hn
      rw [hl]
      simp only [List.mem_cons, List.not_mem_nil, or_false] at hn
      show n < 15; omega
    · show 1 * v_iv (n_v vs 3) + ((-1) * w_fi ws (n_v vs 0) 11 + 0) ≤ 0
      omega
  have nf3 : fc_1 (20, [0, 3], [50, 3, 0, 8, 12, 11, 3, 7, 0, 2, 0, 1, 2, 0, 8, 3, 7, 1, 3, 2, 0, 12, 0, 0, 0, 6, 4, 2, 1, 1, 0, 1, 2, 0, 11]) ws (vs) := by
    refine ⟨fun n hn => ?_, ?_⟩
    · have hn : n ∈ [0, 3] := hn
      rw [hl]
      simp only [List.mem_cons, List.not_mem_nil, or_false] at hn
      show n < 15; omega
    · show (1 ≤ w_fi ws (n_v vs 0) 8) ∨ ((w_fi ws (n_v vs 0) 12 = 0) ∨ ((v_iv (n_v vs 3) + 1) ≤ w_fi ws (n_v vs 0) 11))
      first | omega | grind
  have nf4 : fc_1 (20, [0, 4], [50, 1, 0, 8, 3, 7, 0, 2, 0, 1, 2, 0, 8, 0, 2, 0, 0, 1, 1]) ws (vs) := by
    refine ⟨fun n hn => ?_, ?_⟩
    · have hn : n ∈ [0, 4] := hn
      rw [hl]
      simp only [List.mem_cons, List.not_mem_nil, or_false] at hn
      show n < 15; omega
    · show (1 ≤ w_fi ws (n_v vs 0) 8) ∨ (0 ≤ v_iv (n_v vs 4))
      first | omega | grind
  have nf5 : fc_1 (20, [8, 2], [30, 0, 1, 0, 0, -1, 0, 0]) ws (vs) := by
    refine ⟨fun n hn => ?_, ?_⟩
    · have hn : n ∈ [8, 2] := hn
      rw [hl]
      simp only [List.mem_cons, List.not_mem_nil, or_false] at hn
      show n < 15; omega
    · show 1 * v_iv (n_v vs 8) + ((-1) * v_iv (n_v vs 2) + 0) ≤ 0
      omega
  have nf6 : fc_1 (20, [8], [30, 0, -1, 0, 0]) ws (vs) := by
    refine ⟨fun n hn => ?_, ?_⟩
    · have hn : n ∈ [8] := hn
      rw [hl]
      simp only [List.mem_cons, List.not_mem_nil, or_false] at hn
      show n < 15; omega
    · show (-1) * v_iv (n_v vs 8) + 0 ≤ 0
      omega
  refine ⟨(fun _ h => (by cases h)), [], trivial, ?_, (fun _ h => (by cases h))⟩
  rw [List.append_nil]
  exact List.forall_mem_cons.mpr ⟨⟨show (20 : Nat) < 100 from by decide, nf0⟩, List.forall_mem_cons.mpr ⟨⟨show (20 : Nat) < 100 from by decide, nf1⟩, List.forall_mem_cons.mpr ⟨⟨show (20 : Nat) < 100 from by decide, nf2⟩, List.forall_mem_cons.mpr ⟨⟨show (20 : Nat) < 100 from by decide, nf3⟩, List.forall_mem_cons.mpr ⟨⟨show (20 : Nat) < 100 from by decide, nf4⟩, List.forall_mem_cons.mpr ⟨⟨show (20 : Nat) < 100 from by decide, nf5⟩, List.forall_mem_cons.mpr ⟨⟨show (20 : Nat) < 100 from by decide, nf6⟩, (fun _ h => (by cases h))⟩⟩⟩⟩⟩⟩⟩
def n_Mo_of_at_s5003_an : List an_T := [(17, [(0, (2, 0, 0, [150])), (1, (2, 0, 0, [5003])), (2, (0, 9, 9, [])), (3, (0, -2147483648, 2147483647, []))], [], (0, 0), [(0, 0, 99983), (2, 9, 0), (0, 0, 100000)], [(2, 3, -1000000000000, 9), (2, 4, -1000000000000, 10), (2, 7, -1000000000000, 0), (2, 8, -1000000000000, 2147483657), (3, 2, -1000000000000, 1991), (3, 4, -1000000000000, 2001), (3, 7, -1000000000000, 1991), (3, 8, -1000000000000, 2147485648), (4, 2, -1000000000000, 39), (4, 3, -1000000000000, 48), (4, 7, -1000000000000, 39), (4, 8, -1000000000000, 2147483696), (7, 2, -1000000000000, 0), (7, 3, -1000000000000, 9), (7, 4, -1000000000000, 10), (7, 8, -1000000000000, 2147483657), (8, 2, -1000000000000, 2147483638), (8, 3, -1000000000000, 2147483647), (8, 4, -1000000000000, 2147483648), (8, 7, -1000000000000, 2147483638)], [], [(2, 0, 0, [150]), (2, 0, 0, [5003]), (0, 9, 9, []), (0, 0, 2000, []), (0, -1, 48, [])], 0, [(0, 0, 2000, [])], [(20, [5, 5], [30, 0, 1, 1, 15, -1, 1, 11]), (20, [5], [50, 3, 0, 12, 11, 15, 2, 21, 4, 7, 1, 3, 2, 0, 12, 0, 1, 0, 3, 2, 0, 11, 4, 3, 2, 0, 15, 0, 8, 3, 7, 1, 3, 2, 0, 12, 0, 0, 0, 7, 4, 3, 2, 0, 15, 0, 1, 2, 0, 11]), (20, [3, 5], [30, -1, 1, 0, 0, -1, 1, 11]), (23, [8, 7], [0, 1, -1]), (23, [8], [0, -1]), (23, [4], [0, -1]), (24, [0, 5], []), (24, [2, 7], []), (20, [9, 5], [30, 2000, 1, 0, 0, 1, 1, 11]), (20, [9, 5], [30, -2000, -1, 0, 0, -1, 1, 11])]), (139, [(0, (2, 0, 0, [150])), (1, (2, 0, 0, [5003])), (2, (0, 9, 9, [])), (3, (0, -2147483648, 2147483647, []))], [], (0, 0), [(0, 0, 99983), (2, 10, 0), (0, 0, 99861)], [(2, 3, -1000000000000, 9), (2, 4, -1000000000000, 10), (2, 7, -1000000000000, 0), (2, 9, -1000000000000, 9), (3, 2, -1000000000000, 1991), (3, 4, -1000000000000, 2001), (3, 7, -1000000000000, 1991), (3, 9, -1000000000000, 2000), (4, 2, -1000000000000, 39), (4, 3, -1000000000000, 48), (4, 7, -1000000000000, 39), (4, 9, -1000000000000, 48), (7, 2, -1000000000000, 0), (7, 3, -1000000000000, 9), (7, 4, -1000000000000, 10), (7, 9, -1000000000000, 9), (8, 2, -1000000000000, 2147483638), (8, 3, -1000000000000, 2147483647), (8, 4, -1000000000000, 2147483648), (8, 7, -1000000000000, 2147483638), (8, 9, -1000000000000, 2147483647), (9, 2, -1000000000000, -9), (9, 3, -1000000000000, 0), (9, 4, -1000000000000, 1), (9, 7, -1000000000000, -9)], [((0, 8), (0, 0, 0, []))], [(2, 0, 0, [150]), (2, 0, 0, [5003]), (0, 9, 9, []), (0, 0, 2000, []), (0, -1, 48, [])], 0, [(0, 0, 2000, [])], [(20, [5, 5], [30, 0, 1, 1, 15, -1, 1, 11]), (20, [5], [50, 3, 0, 12, 11, 15, 2, 21, 4, 7, 1, 3, 2, 0, 12, 0, 1, 0, 3, 2, 0, 11, 4, 3, 2, 0, 15, 0, 8, 3, 7, 1, 3, 2, 0, 12, 0, 0, 0, 7, 4, 3, 2, 0, 15, 0, 1, 2, 0, 11]), (20, [3, 5], [30, -1, 1, 0, 0, -1, 1, 11]), (23, [8, 7], [0, 1, -1]), (23, [8], [0, -1]), (23, [4], [0, -1]), (20, [10, 5], [30, -2001, -1, 0, 0, -1, 1, 11]), (24, [0, 5], []), (24, [2, 7], [])])]
def t_Mo_of_at_s5003_ct : ct_L := [(0, 387, e_Mo_in), (1, 457, e_Mo_sign), (1, 460, e_Mo_next), (1, 463, e_Mo_wrong), (1, 491, e_Mo_need), (118, 469, e_Mo_isWord_at_s5003)]
set_option maxRecDepth 100000 in
theorem c_Mo_of_at_s5003 {l : Launch} {D : va_G} {kA : Nat → ClassId} (h_Mo_in : ct_ok l D kA GG y_Mo_in z_Mo_in e_Mo_in) (h_Mo_isWord_at_s5003 : ct_ok l D kA GG y_Mo_isWord_at_s5003 z_Mo_isWord_at_s5003 e_Mo_isWord_at_s5003) (h_Mo_need : ct_ok l D kA GG y_Mo_need z_Mo_need e_Mo_need) (h_Mo_next : ct_ok l D kA GG y_Mo_next z_Mo_next e_Mo_next) (h_Mo_sign : ct_ok l D kA GG y_Mo_sign z_Mo_sign e_Mo_sign) (h_Mo_wrong : ct_ok l D kA GG y_Mo_wrong z_Mo_wrong e_Mo_wrong) : ct_ok l D kA GG y_Mo_of_at_s5003 z_Mo_of_at_s5003 e_Mo_of_at_s5003 := chk_all_ok (FT := [(413, 13, 8), (428, 13, 13), (434, 13, 12), (437, 13, 14)]) (PT := []) (CT := t_Mo_of_at_s5003_ct) (KT := []) (NT := []) (AN := n_Mo_of_at_s5003_an) (OT := [o_Mo_of_at_s5003_0, o_Mo_of_at_s5003_1, o_Mo_of_at_s5003_2, o_Mo_of_at_s5003_3, o_Mo_of_at_s5003_4, o_Mo_of_at_s5003_5, o_Mo_of_at_s5003_6, o_Mo_of_at_s5003_7, o_Mo_of_at_s5003_8, o_Mo_of_at_s5003_9, o_Mo_of_at_s5003_10, o_Mo_of_at_s5003_11, o_Mo_of_at_s5003_12, o_Mo_of_at_s5003_13, o_Mo_of_at_s5003_14, o_Mo_of_at_s5003_15, o_Mo_of_at_s5003_16, o_Mo_of_at_s5003_17, o_Mo_of_at_s5003_18, o_Mo_of_at_s5003_19, o_Mo_of_at_s5003_20, o_Mo_of_at_s5003_21, o_Mo_of_at_s5003_22, o_Mo_of_at_s5003_23, o_Mo_of_at_s5003_24, o_Mo_of_at_s5003_25, o_Mo_of_at_s5003_26, o_Mo_of_at_s5003_27, o_Mo_of_at_s5003_28, o_Mo_of_at_s5003_29, o_Mo_of_at_s5003_30, o_Mo_of_at_s5003_31]) 3 732 (List.forall_mem_cons.mpr ⟨oo_Mo_of_at_s5003_0, List.forall_mem_cons.mpr ⟨oo_Mo_of_at_s5003_1, List.forall_mem_cons.mpr ⟨oo_Mo_of_at_s5003_2, List.forall_mem_cons.mpr ⟨oo_Mo_of_at_s5003_3, List.forall_mem_cons.mpr ⟨oo_Mo_of_at_s5003_4, List.forall_mem_cons.mpr ⟨oo_Mo_of_at_s5003_5, List.forall_mem_cons.mpr ⟨oo_Mo_of_at_s5003_6, List.forall_mem_cons.mpr ⟨oo_Mo_of_at_s5003_7, List.forall_mem_cons.mpr ⟨oo_Mo_of_at_s5003_8, List.forall_mem_cons.mpr ⟨oo_Mo_of_at_s5003_9, List.forall_mem_cons.mpr ⟨oo_Mo_of_at_s5003_10, List.forall_mem_cons.mpr ⟨oo_Mo_of_at_s5003_11, List.forall_mem_cons.mpr ⟨oo_Mo_of_at_s5003_12, List.forall_mem_cons.mpr ⟨oo_Mo_of_at_s5003_13, List.forall_mem_cons.mpr ⟨oo_Mo_of_at_s5003_14, List.forall_mem_cons.mpr ⟨oo_Mo_of_at_s5003_15, List.forall_mem_cons.mpr ⟨oo_Mo_of_at_s5003_16, List.forall_mem_cons.mpr ⟨oo_Mo_of_at_s5003_17, List.forall_mem_cons.mpr ⟨oo_Mo_of_at_s5003_18, List.forall_mem_cons.mpr ⟨oo_Mo_of_at_s5003_19, List.forall_mem_cons.mpr ⟨oo_Mo_of_at_s5003_20, List.forall_mem_cons.mpr ⟨oo_Mo_of_at_s5003_21, List.forall_mem_cons.mpr ⟨oo_Mo_of_at_s5003_22, List.forall_mem_cons.mpr ⟨oo_Mo_of_at_s5003_23, List.forall_mem_cons.mpr ⟨oo_Mo_of_at_s5003_24, List.forall_mem_cons.mpr ⟨oo_Mo_of_at_s5003_25, List.forall_mem_cons.mpr ⟨oo_Mo_of_at_s5003_26, List.forall_mem_cons.mpr ⟨oo_Mo_of_at_s5003_27, List.forall_mem_cons.mpr ⟨oo_Mo_of_at_s5003_28, List.forall_mem_cons.mpr ⟨oo_Mo_of_at_s5003_29, List.forall_mem_cons.mpr ⟨oo_Mo_of_at_s5003_30, List.forall_mem_cons.mpr ⟨oo_Mo_of_at_s5003_31, List.forall_mem_nil _⟩⟩⟩⟩⟩⟩⟩⟩⟩⟩⟩⟩⟩⟩⟩⟩⟩⟩⟩⟩⟩⟩⟩⟩⟩⟩⟩⟩⟩⟩⟩⟩) (by decide +kernel) ⟨List.forall_mem_cons.mpr ⟨gf_Mo_413, List.forall_mem_cons.mpr ⟨gf_Mo_428, List.forall_mem_cons.mpr ⟨gf_Mo_434, List.forall_mem_cons.mpr ⟨gf_Mo_437, List.forall_mem_nil _⟩⟩⟩⟩, List.forall_mem_nil _, List.forall_mem_cons.mpr ⟨cl_static (y := y_Mo_in) h_Mo_in wm_2971 wm_9 wm_2969 wm_2970 ⟨by decide, by decide, by decide +kernel⟩ (by decide), List.forall_mem_cons.mpr ⟨cl_virtual (y := y_Mo_sign) (ci := 13) rfl rfl ⟨_, _, rfl⟩ (by decide +kernel) h_Mo_sign wm_3058 wm_9 wm_3055 wm_3057 wv_13_11 ⟨by decide, by decide, by decide +kernel⟩ (by decide), List.forall_mem_cons.mpr ⟨cl_virtual (y := y_Mo_next) (ci := 13) rfl rfl ⟨_, _, rfl⟩ (by decide +kernel) h_Mo_next wm_2982 wm_9 wm_2979 wm_2981 wv_12_11 ⟨by decide, by decide, by decide +kernel⟩ (by decide), List.forall_mem_cons.mpr ⟨cl_virtual (y := y_Mo_wrong) (ci := 13) rfl rfl ⟨_, _, rfl⟩ (by decide +kernel) h_Mo_wrong wm_3017 wm_9 wm_3014 wm_3016 wv_13_1 ⟨by decide, by decide, by decide +kernel⟩ (by decide), List.forall_mem_cons.mpr ⟨cl_virtual (y := y_Mo_need) (ci := 13) rfl rfl ⟨_, _, rfl⟩ (by decide +kernel) h_Mo_need wm_3062 wm_9 wm_3059 wm_3061 wv_13_12 ⟨by decide, by decide, by decide +kernel⟩ (by decide), List.forall_mem_cons.mpr ⟨cl_virtual (y := y_Mo_isWord_at_s5003) (ci := 13) rfl rfl ⟨_, _, rfl⟩ (by decide +kernel) h_Mo_isWord_at_s5003 wm_3002 wm_9 wm_2999 wm_3001 wv_12_14 ⟨by decide, by decide, by decide +kernel⟩ (by decide), List.forall_mem_nil _⟩⟩⟩⟩⟩⟩, List.forall_mem_nil _, List.forall_mem_nil _, GG_pl⟩ (by decide +kernel)
def o_Mo_writeEdges_0 : or_T := (2, 3, [(0, (2, 0, 0, [150])), (1, (0, 0, 99997888, [])), (2, (0, 0, 0, []))], [(20, [0, 1], [30, 0, 1, 1, 170, -1, 0, 0])], [], [], [(20, [0, 1, 2], [30, 0, 1, 1, 170, -1, 0, 0, -44, 0, 0]), (24, [0, 0], [])], [], [])
theorem oo_Mo_writeEdges_0 {kA : Nat → ClassId} : or_ok kA GG o_Mo_writeEdges_0 := by
  intro A ta ws vs hD hth hl hk hds hf
  have hl : vs.length = 3 := hl
  have hk : ∀ q ∈ ([(0, (2, 0, 0, [150])), (1, (0, 0, 99997888, [])), (2, (0, 0, 0, []))] : List (Nat × tv_T)), tv_ok ta q.2 (n_v vs q.1) := hk
  obtain ⟨t0, hk⟩ := List.forall_mem_cons.mp hk
  have t0 : tv_ok ta (2, 0, 0, [150]) (n_v vs 0) := t0
  have r0 : ta (v_ad (n_v vs 0)) = some 150 := tv_rg t0
  obtain ⟨t1, hk⟩ := List.forall_mem_cons.mp hk
  have t1 : tv_ok ta (0, 0, 99997888, []) (n_v vs 1) := t1
  have k1 : 0 ≤ v_iv (n_v vs 1) ∧ v_iv (n_v vs 1) ≤ 99997888 := tv_rng t1
  obtain ⟨t2, hk⟩ := List.forall_mem_cons.mp hk
  have t2 : tv_ok ta (0, 0, 0, []) (n_v vs 2) := t2
  have k2 : 0 ≤ v_iv (n_v vs 2) ∧ v_iv (n_v vs 2) ≤ 0 := tv_rng t2
  have hf : fc_ok [(20, [0, 1], [30, 0, 1, 1, 170, -1, 0, 0])] ta ws vs := hf
  obtain ⟨f0, hf⟩ := fc_un (show (20 : Nat) < 100 from by decide) hf
  have f0 : 1 * w_fi ws (n_v vs 0) 170 + ((-1) * v_iv (n_v vs 1) + 0) ≤ 0 := f0
  have kz_0_170 : 0 ≤ w_fi ws (n_v vs 0) 170 ∧ w_fi ws (n_v vs 0) 170 ≤ 100000000 := tv_rng (th_fd hD hth r0 (g := GG_150) rfl (k := 170) (t := (0, 0, 100000000, [])) rfl rfl)
  have nf0 : fc_1 (20, [0, 1, 2], [30, 0, 1, 1, 170, -1, 0, 0, -44, 0, 0]) ws (vs) := by
    refine ⟨fun n hn => ?_, ?_⟩
    · have hn : n ∈ [0, 1, 2] := hn
      rw [hl]
      simp only [List.mem_cons, List.not_mem_nil, or_false] at hn
      show n < 3; omega
    · show 1 * w_fi ws (n_v vs 0) 170 + ((-1) * v_iv (n_v vs 1) + ((-44) * v_iv (n_v vs 2) + 0)) ≤ 0
      omega
  have nf1 : fc_1 (24, [0, 0], []) ws (vs) := by
    refine ⟨fun n hn => ?_, ?_⟩
    · have hn : n ∈ [0, 0] := hn
      rw [hl]
      simp only [List.mem_cons, List.not_mem_nil, or_false] at hn
      show n < 3; omega
    · show n_v vs 0 = n_v vs 0
      first | rfl | simp only [true_and]
  refine ⟨(fun _ h => (by cases h)), [], trivial, ?_, (fun _ h => (by cases h))⟩
  rw [List.append_nil]
  exact List.forall_mem_cons.mpr ⟨⟨show (20 : Nat) < 100 from by decide, nf0⟩, List.forall_mem_cons.mpr ⟨⟨show (24 : Nat) < 100 from by decide, nf1⟩, (fun _ h => (by cases h))⟩⟩
def o_Mo_writeEdges_1 : or_T := (95, 5, [(0, (2, 0, 0, [150])), (1, (0, 0, 99997888, [])), (2, (2, 0, 0, [150])), (3, (0, 0, 48, [])), (4, (0, 0, 48, []))], [(7, [3, 4], [3]), (20, [4, 2], [30, 0, 1, 0, 0, -1, 3, 2005001]), (20, [4, 2], [30, 0, -1, 0, 0, 1, 3, 2005001]), (20, [2, 1, 3], [30, 0, 1, 1, 170, -1, 0, 0, -44, 0, 0]), (24, [0, 2], [])], [], [], [(20, [0, 1], [30, 2112, 1, 1, 170, -1, 0, 0])], [], [(3, 4, 0, 4294967296)])
theorem oo_Mo_writeEdges_1 {kA : Nat → ClassId} : or_ok kA GG o_Mo_writeEdges_1 := by
  intro A ta ws vs hD hth hl hk hds hf
  have hl : vs.length = 5 := hl
  have hk : ∀ q ∈ ([(0, (2, 0, 0, [150])), (1, (0, 0, 99997888, [])), (2, (2, 0, 0, [150])), (3, (0, 0, 48, [])), (4, (0, 0, 48, []))] : List (Nat × tv_T)), tv_ok ta q.2 (n_v vs q.1) := hk
  obtain ⟨t0, hk⟩ := List.forall_mem_cons.mp hk
  have t0 : tv_ok ta (2, 0, 0, [150]) (n_v vs 0) := t0
  have r0 : ta (v_ad (n_v vs 0)) = some 150 := tv_rg t0
  obtain ⟨t1, hk⟩ := List.forall_mem_cons.mp hk
  have t1 : tv_ok ta (0, 0, 99997888, []) (n_v vs 1) := t1
  have k1 : 0 ≤ v_iv (n_v vs 1) ∧ v_iv (n_v vs 1) ≤ 99997888 := tv_rng t1
  obtain ⟨t2, hk⟩ := List.forall_mem_cons.mp hk
  have t2 : tv_ok ta (2, 0, 0, [150]) (n_v vs 2) := t2
  have r2 : ta (v_ad (n_v vs 2)) = some 150 := tv_rg t2
  obtain ⟨t3, hk⟩ := List.forall_mem_cons.mp hk
  have t3 : tv_ok ta (0, 0, 48, []) (n_v vs 3) := t3
  have k3 : 0 ≤ v_iv (n_v vs 3) ∧ v_iv (n_v vs 3) ≤ 48 := tv_rng t3
  obtain ⟨t4, hk⟩ := List.forall_mem_cons.mp hk
  have t4 : tv_ok ta (0, 0, 48, []) (n_v vs 4) := t4
  have k4 : 0 ≤ v_iv (n_v vs 4) ∧ v_iv (n_v vs 4) ≤ 48 := tv_rng t4
  have hds : ∀ q ∈ ([(3, 4, 0, 4294967296)] : List of_T), n_iv vs q.2.1 + q.2.2.1 ≤ n_iv vs q.1 ∧ n_iv vs q.1 ≤ n_iv vs q.2.1 + q.2.2.2 := hds
  obtain ⟨d0, hds⟩ := List.forall_mem_cons.mp hds
  have d0 : v_iv (n_v vs 4) + 0 ≤ v_iv (n_v vs 3) ∧ v_iv (n_v vs 3) ≤ v_iv (n_v vs 4) + 4294967296 := d0
  have hf : fc_ok [(7, [3, 4], [3]), (20, [4, 2], [30, 0, 1, 0, 0, -1, 3, 2005001]), (20, [4, 2], [30, 0, -1, 0, 0, 1, 3, 2005001]), (20, [2, 1, 3], [30, 0, 1, 1, 170, -1, 0, 0, -44, 0, 0]), (24, [0, 2], [])] ta ws vs := hf
  obtain ⟨f0, hf⟩ := fc_un (show (7 : Nat) < 100 from by decide) hf
  have f0 : v_iv (n_v vs 4) ≤ v_iv (n_v vs 3) := f0
  obtain ⟨f1, hf⟩ := fc_un (show (20 : Nat) < 100 from by decide) hf
  have f1 : 1 * v_iv (n_v vs 4) + ((-1) * w_el ws (w_ar ws (n_v vs 2) 2) (w_fi ws (n_v vs 2) 5 + 1).toNat + 0) ≤ 0 := f1
  obtain ⟨f2, hf⟩ := fc_un (show (20 : Nat) < 100 from by decide) hf
  have f2 : (-1) * v_iv (n_v vs 4) + (1 * w_el ws (w_ar ws (n_v vs 2) 2) (w_fi ws (n_v vs 2) 5 + 1).toNat + 0) ≤ 0 := f2
  obtain ⟨f3, hf⟩ := fc_un (show (20 : Nat) < 100 from by decide) hf
  have f3 : 1 * w_fi ws (n_v vs 2) 170 + ((-1) * v_iv (n_v vs 1) + ((-44) * v_iv (n_v vs 3) + 0)) ≤ 0 := f3
  obtain ⟨f4, hf⟩ := fc_un (show (24 : Nat) < 100 from by decide) hf
  have f4 : n_v vs 0 = n_v vs 2 := f4
  have q2 : n_v vs 2 = n_v vs 0 := f4.symm
  rw [q2] at f1
  rw [q2] at f2
  rw [q2] at f3
  have cr_0_2 : ta (w_ar ws (n_v vs 0) 2) = some 152 := tv_rg (th_fd hD hth r0 (g := GG_150) rfl (k := 2) (t := (2, 0, 0, [152])) rfl rfl)
  have kz_0_170 : 0 ≤ w_fi ws (n_v vs 0) 170 ∧ w_fi ws (n_v vs 0) 170 ≤ 100000000 := tv_rng (th_fd hD hth r0 (g := GG_150) rfl (k := 170) (t := (0, 0, 100000000, [])) rfl rfl)
  have nf0 : fc_1 (20, [0, 1], [30, 2112, 1, 1, 170, -1, 0, 0]) ws (vs) := by
    refine ⟨fun n hn => ?_, ?_⟩
    · have hn : n ∈ [0, 1] := hn
      rw [hl]
      simp only [List.mem_cons, List.not_mem_nil, or_false] at hn
      show n < 5; omega
    · show 1 * w_fi ws (n_v vs 0) 170 + ((-1) * v_iv (n_v vs 1) + 0) ≤ 2112
      omega
  refine ⟨(fun _ h => (by cases h)), [], trivial, ?_, (fun _ h => (by cases h))⟩
  rw [List.append_nil]
  exact List.forall_mem_cons.mpr ⟨⟨show (20 : Nat) < 100 from by decide, nf0⟩, (fun _ h => (by cases h))⟩
def o_Mo_writeEdges_2 : or_T := (16, 6, [(0, (2, 0, 0, [150])), (1, (0, 0, 99997888, [])), (2, (2, 0, 0, [150])), (3, (0, 0, 47, [])), (4, (0, 1, 48, [])), (5, (0, 0, 23, []))], [(20, [5, 2, 3], [50, 1, 1, 1005, 1002, 1, 2, 1, 0, 3, 1, 2, 4, 7, 4, 3, 2, 1, 5, 0, 267, 1, 2]), (7, [3, 4], [2]), (20, [4, 2], [30, 0, 1, 0, 0, -1, 3, 2005001]), (20, [4, 2], [30, 0, -1, 0, 0, 1, 3, 2005001]), (20, [2, 1, 3], [30, 0, 1, 1, 170, -1, 0, 0, -44, 0, 0]), (24, [0, 2], [])], [], [(0, 0, 99999992, [])], [(20, [2, 6], [30, 0, 1, 1, 170, -1, 0, 0]), (23, [6, 1, 3], [0, 1, -1, -44])], [], [(3, 4, -4294967296, -1)])
theorem oo_Mo_writeEdges_2 {kA : Nat → ClassId} : or_ok kA GG o_Mo_writeEdges_2 := by
  intro A ta ws vs hD hth hl hk hds hf
  have hl : vs.length = 6 := hl
  have hk : ∀ q ∈ ([(0, (2, 0, 0, [150])), (1, (0, 0, 99997888, [])), (2, (2, 0, 0, [150])), (3, (0, 0, 47, [])), (4, (0, 1, 48, [])), (5, (0, 0, 23, []))] : List (Nat × tv_T)), tv_ok ta q.2 (n_v vs q.1) := hk
  obtain ⟨t0, hk⟩ := List.forall_mem_cons.mp hk
  have t0 : tv_ok ta (2, 0, 0, [150]) (n_v vs 0) := t0
  have r0 : ta (v_ad (n_v vs 0)) = some 150 := tv_rg t0
  obtain ⟨t1, hk⟩ := List.forall_mem_cons.mp hk
  have t1 : tv_ok ta (0, 0, 99997888, []) (n_v vs 1) := t1
  have k1 : 0 ≤ v_iv (n_v vs 1) ∧ v_iv (n_v vs 1) ≤ 99997888 := tv_rng t1
  obtain ⟨t2, hk⟩ := List.forall_mem_cons.mp hk
  have t2 : tv_ok ta (2, 0, 0, [150]) (n_v vs 2) := t2
  have r2 : ta (v_ad (n_v vs 2)) = some 150 := tv_rg t2
  obtain ⟨t3, hk⟩ := List.forall_mem_cons.mp hk
  have t3 : tv_ok ta (0, 0, 47, []) (n_v vs 3) := t3
  have k3 : 0 ≤ v_iv (n_v vs 3) ∧ v_iv (n_v vs 3) ≤ 47 := tv_rng t3
  obtain ⟨t4, hk⟩ := List.forall_mem_cons.mp hk
  have t4 : tv_ok ta (0, 1, 48, []) (n_v vs 4) := t4
  have k4 : 1 ≤ v_iv (n_v vs 4) ∧ v_iv (n_v vs 4) ≤ 48 := tv_rng t4
  obtain ⟨t5, hk⟩ := List.forall_mem_cons.mp hk
  have t5 : tv_ok ta (0, 0, 23, []) (n_v vs 5) := t5
  have k5 : 0 ≤ v_iv (n_v vs 5) ∧ v_iv (n_v vs 5) ≤ 23 := tv_rng t5
  have hds : ∀ q ∈ ([(3, 4, -4294967296, -1)] : List of_T), n_iv vs q.2.1 + q.2.2.1 ≤ n_iv vs q.1 ∧ n_iv vs q.1 ≤ n_iv vs q.2.1 + q.2.2.2 := hds
  obtain ⟨d0, hds⟩ := List.forall_mem_cons.mp hds
  have d0 : v_iv (n_v vs 4) + (-4294967296) ≤ v_iv (n_v vs 3) ∧ v_iv (n_v vs 3) ≤ v_iv (n_v vs 4) + (-1) := d0
  have hf : fc_ok [(20, [5, 2, 3], [50, 1, 1, 1005, 1002, 1, 2, 1, 0, 3, 1, 2, 4, 7, 4, 3, 2, 1, 5, 0, 267, 1, 2]), (7, [3, 4], [2]), (20, [4, 2], [30, 0, 1, 0, 0, -1, 3, 2005001]), (20, [4, 2], [30, 0, -1, 0, 0, 1, 3, 2005001]), (20, [2, 1, 3], [30, 0, 1, 1, 170, -1, 0, 0, -44, 0, 0]), (24, [0, 2], [])] ta ws vs := hf
  obtain ⟨f0, hf⟩ := fc_un (show (20 : Nat) < 100 from by decide) hf
  have f0 : v_iv (n_v vs 5) = w_ei ws (w_ar ws (n_v vs 2) 2) (((w_fi ws (n_v vs 2) 5 + 267) + v_iv (n_v vs 3))) := f0
  obtain ⟨f1, hf⟩ := fc_un (show (7 : Nat) < 100 from by decide) hf
  have f1 : v_iv (n_v vs 3) < v_iv (n_v vs 4) := f1
  obtain ⟨f2, hf⟩ := fc_un (show (20 : Nat) < 100 from by decide) hf
  have f2 : 1 * v_iv (n_v vs 4) + ((-1) * w_el ws (w_ar ws (n_v vs 2) 2) (w_fi ws (n_v vs 2) 5 + 1).toNat + 0) ≤ 0 := f2
  obtain ⟨f3, hf⟩ := fc_un (show (20 : Nat) < 100 from by decide) hf
  have f3 : (-1) * v_iv (n_v vs 4) + (1 * w_el ws (w_ar ws (n_v vs 2) 2) (w_fi ws (n_v vs 2) 5 + 1).toNat + 0) ≤ 0 := f3
  obtain ⟨f4, hf⟩ := fc_un (show (20 : Nat) < 100 from by decide) hf
  have f4 : 1 * w_fi ws (n_v vs 2) 170 + ((-1) * v_iv (n_v vs 1) + ((-44) * v_iv (n_v vs 3) + 0)) ≤ 0 := f4
  obtain ⟨f5, hf⟩ := fc_un (show (24 : Nat) < 100 from by decide) hf
  have f5 : n_v vs 0 = n_v vs 2 := f5
  have q2 : n_v vs 2 = n_v vs 0 := f5.symm
  rw [q2] at f0
  rw [q2] at f2
  rw [q2] at f3
  rw [q2] at f4
  have cr_0_2 : ta (w_ar ws (n_v vs 0) 2) = some 152 := tv_rg (th_fd hD hth r0 (g := GG_150) rfl (k := 2) (t := (2, 0, 0, [152])) rfl rfl)
  have br_0_2_F5_1_0 : w_ei ws (w_ar ws (n_v vs 0) 2) (w_fi ws (n_v vs 0) 5 + 1) = w_el ws (w_ar ws (n_v vs 0) 2) (w_fi ws (n_v vs 0) 5 + 1).toNat := rfl
  have kz_0_170 : 0 ≤ w_fi ws (n_v vs 0) 170 ∧ w_fi ws (n_v vs 0) 170 ≤ 100000000 := tv_rng (th_fd hD hth r0 (g := GG_150) rfl (k := 170) (t := (0, 0, 100000000, [])) rfl rfl)
  have kv0 : 0 ≤ w_fi ws (n_v vs 0) 170 ∧ w_fi ws (n_v vs 0) 170 ≤ 100000000 := tv_rng (th_fd hD hth r0 (g := GG_150) rfl (k := 170) (t := (0, 0, 100000000, [])) rfl rfl)
  obtain ⟨x, ex, hx⟩ := iv_ex (ta := ta) (lo := 0) (hi := 99999992) (z := w_fi ws (n_v vs 0) 170) (by omega) (by omega) (by omega) (by omega)
  have ex2 : v_iv (Value.int x) = w_fi ws (n_v vs 0) 170 := ex
  have ex3 : 0 ≤ v_iv (Value.int x) ∧ v_iv (Value.int x) ≤ 99999992 := tv_rng hx
  have e_1 : n_v (vs ++ [Value.int x]) 1 = n_v vs 1 := n_v_old (by rw [hl]; decide)
  have e_2 : n_v (vs ++ [Value.int x]) 2 = n_v vs 2 := n_v_old (by rw [hl]; decide)
  have e_3 : n_v (vs ++ [Value.int x]) 3 = n_v vs 3 := n_v_old (by rw [hl]; decide)
  have e_6 : n_v (vs ++ [Value.int x]) 6 = Value.int x := n_v_new hl
  have nf0 : fc_1 (20, [2, 6], [30, 0, 1, 1, 170, -1, 0, 0]) ws (vs ++ [Value.int x]) := by
    refine ⟨fun n hn => ?_, ?_⟩
    · have hn : n ∈ [2, 6] := hn
      rw [List.length_append, hl]
      simp only [List.mem_cons, List.not_mem_nil, or_false] at hn
      show n < 6 + 1; omega
    · show 1 * w_fi ws (n_v (vs ++ [Value.int x]) 2) 170 + ((-1) * v_iv (n_v (vs ++ [Value.int x]) 6) + 0) ≤ 0
      rw [e_2]
      rw [e_6]
      rw [q2]
      omega
  have nf1 : fc_1 (23, [6, 1, 3], [0, 1, -1, -44]) ws (vs ++ [Value.int x]) := by
    refine ⟨fun n hn => ?_, ?_⟩
    · have hn : n ∈ [6, 1, 3] := hn
      rw [List.length_append, hl]
      simp only [List.mem_cons, List.not_mem_nil, or_false] at hn
      show n < 6 + 1; omega
    · show 1 * v_iv (n_v (vs ++ [Value.int x]) 6) + ((-1) * v_iv (n_v (vs ++ [Value.int x]) 1) + ((-44) * v_iv (n_v (vs ++ [Value.int x]) 3) + 0)) ≤ 0
      rw [e_1]
      rw [e_3]
      rw [e_6]
      omega
  exact ⟨(fun _ h => (by cases h)), [Value.int x], ag_one hx, List.forall_mem_cons.mpr ⟨⟨show (20 : Nat) < 100 from by decide, nf0⟩, List.forall_mem_cons.mpr ⟨⟨show (23 : Nat) < 100 from by decide, nf1⟩, (fun _ h => (by cases h))⟩⟩, (fun _ h => (by cases h))⟩
def o_Mo_writeEdges_3 : or_T := (38, 10, [(0, (2, 0, 0, [150])), (1, (0, 0, 99997888, [])), (2, (2, 0, 0, [150])), (3, (0, 0, 47, [])), (4, (0, 1, 48, [])), (5, (0, 0, 23, [])), (6, (0, 0, 99999992, []))], [(23, [6, 1, 3], [0, 1, -1, -44]), (20, [5, 2, 3], [50, 1, 1, 1005, 1002, 1, 2, 1, 0, 3, 1, 2, 4, 7, 4, 3, 2, 1, 5, 0, 267, 1, 2]), (20, [4, 2], [30, 0, 1, 0, 0, -1, 3, 2005001]), (20, [4, 2], [30, 0, -1, 0, 0, 1, 3, 2005001]), (24, [0, 2], []), (20, [2, 6], [30, 8, 1, 1, 170, -1, 0, 0]), (102, [6], [237142198758023568227473377297792835283496928595231875152809132048206089502588928, 13170]), (23, [6, 1, 3], [0, 1, -1, -44]), (7, [3, 4], [2])], [], [(0, 0, 99999997, [])], [(20, [2, 10], [30, 0, 1, 1, 170, -1, 0, 0]), (23, [10, 1, 3], [8, 1, -1, -44])], [], [(3, 4, -4294967296, -1)])
theorem oo_Mo_writeEdges_3 {kA : Nat → ClassId} : or_ok kA GG o_Mo_writeEdges_3 := by
  intro A ta ws vs hD hth hl hk hds hf
  have hl : vs.length = 10 := hl
  have hk : ∀ q ∈ ([(0, (2, 0, 0, [150])), (1, (0, 0, 99997888, [])), (2, (2, 0, 0, [150])), (3, (0, 0, 47, [])), (4, (0, 1, 48, [])), (5, (0, 0, 23, [])), (6, (0, 0, 99999992, []))] : List (Nat × tv_T)), tv_ok ta q.2 (n_v vs q.1) := hk
  obtain ⟨t0, hk⟩ := List.forall_mem_cons.mp hk
  have t0 : tv_ok ta (2, 0, 0, [150]) (n_v vs 0) := t0
  have r0 : ta (v_ad (n_v vs 0)) = some 150 := tv_rg t0
  obtain ⟨t1, hk⟩ := List.forall_mem_cons.mp hk
  have t1 : tv_ok ta (0, 0, 99997888, []) (n_v vs 1) := t1
  have k1 : 0 ≤ v_iv (n_v vs 1) ∧ v_iv (n_v vs 1) ≤ 99997888 := tv_rng t1
  obtain ⟨t2, hk⟩ := List.forall_mem_cons.mp hk
  have t2 : tv_ok ta (2, 0, 0, [150]) (n_v vs 2) := t2
  have r2 : ta (v_ad (n_v vs 2)) = some 150 := tv_rg t2
  obtain ⟨t3, hk⟩ := List.forall_mem_cons.mp hk
  have t3 : tv_ok ta (0, 0, 47, []) (n_v vs 3) := t3
  have k3 : 0 ≤ v_iv (n_v vs 3) ∧ v_iv (n_v vs 3) ≤ 47 := tv_rng t3
  obtain ⟨t4, hk⟩ := List.forall_mem_cons.mp hk
  have t4 : tv_ok ta (0, 1, 48, []) (n_v vs 4) := t4
  have k4 : 1 ≤ v_iv (n_v vs 4) ∧ v_iv (n_v vs 4) ≤ 48 := tv_rng t4
  obtain ⟨t5, hk⟩ := List.forall_mem_cons.mp hk
  have t5 : tv_ok ta (0, 0, 23, []) (n_v vs 5) := t5
  have k5 : 0 ≤ v_iv (n_v vs 5) ∧ v_iv (n_v vs 5) ≤ 23 := tv_rng t5
  obtain ⟨t6, hk⟩ := List.forall_mem_cons.mp hk
  have t6 : tv_ok ta (0, 0, 99999992, []) (n_v vs 6) := t6
  have k6 : 0 ≤ v_iv (n_v vs 6) ∧ v_iv (n_v vs 6) ≤ 99999992 := tv_rng t6
  have hds : ∀ q ∈ ([(3, 4, -4294967296, -1)] : List of_T), n_iv vs q.2.1 + q.2.2.1 ≤ n_iv vs q.1 ∧ n_iv vs q.1 ≤ n_iv vs q.2.1 + q.2.2.2 := hds
  obtain ⟨d0, hds⟩ := List.forall_mem_cons.mp hds
  have d0 : v_iv (n_v vs 4) + (-4294967296) ≤ v_iv (n_v vs 3) ∧ v_iv (n_v vs 3) ≤ v_iv (n_v vs 4) + (-1) := d0
  have hf : fc_ok [(23, [6, 1, 3], [0, 1, -1, -44]), (20, [5, 2, 3], [50, 1, 1, 1005, 1002, 1, 2, 1, 0, 3, 1, 2, 4, 7, 4, 3, 2, 1, 5, 0, 267, 1, 2]), (20, [4, 2], [30, 0, 1, 0, 0, -1, 3, 2005001]), (20, [4, 2], [30, 0, -1, 0, 0, 1, 3, 2005001]), (24, [0, 2], []), (20, [2, 6], [30, 8, 1, 1, 170, -1, 0, 0]), (102, [6], [237142198758023568227473377297792835283496928595231875152809132048206089502588928, 13170]), (23, [6, 1, 3], [0, 1, -1, -44]), (7, [3, 4], [2])] ta ws vs := hf
  obtain ⟨f0, hf⟩ := fc_un (show (23 : Nat) < 100 from by decide) hf
  have f0 : 1 * v_iv (n_v vs 6) + ((-1) * v_iv (n_v vs 1) + ((-44) * v_iv (n_v vs 3) + 0)) ≤ 0 := f0
  obtain ⟨f1, hf⟩ := fc_un (show (20 : Nat) < 100 from by decide) hf
  have f1 : v_iv (n_v vs 5) = w_ei ws (w_ar ws (n_v vs 2) 2) (((w_fi ws (n_v vs 2) 5 + 267) + v_iv (n_v vs 3))) := f1
  obtain ⟨f2, hf⟩ := fc_un (show (20 : Nat) < 100 from by decide) hf
  have f2 : 1 * v_iv (n_v vs 4) + ((-1) * w_el ws (w_ar ws (n_v vs 2) 2) (w_fi ws (n_v vs 2) 5 + 1).toNat + 0) ≤ 0 := f2
  obtain ⟨f3, hf⟩ := fc_un (show (20 : Nat) < 100 from by decide) hf
  have f3 : (-1) * v_iv (n_v vs 4) + (1 * w_el ws (w_ar ws (n_v vs 2) 2) (w_fi ws (n_v vs 2) 5 + 1).toNat + 0) ≤ 0 := f3
  obtain ⟨f4, hf⟩ := fc_un (show (24 : Nat) < 100 from by decide) hf
  have f4 : n_v vs 0 = n_v vs 2 := f4
  obtain ⟨f5, hf⟩ := fc_un (show (20 : Nat) < 100 from by decide) hf
  have f5 : 1 * w_fi ws (n_v vs 2) 170 + ((-1) * v_iv (n_v vs 6) + 0) ≤ 8 := f5
  obtain ⟨ta1, w1, le1, ⟨_, s1⟩, hf⟩ := fc_us (show ¬ (102 : Nat) < 100 from by decide) hf
  obtain ⟨f7, hf⟩ := fc_un (show (23 : Nat) < 100 from by decide) hf
  have f7 : 1 * v_iv (n_v vs 6) + ((-1) * v_iv (n_v vs 1) + ((-44) * v_iv (n_v vs 3) + 0)) ≤ 0 := f7
  obtain ⟨f8, hf⟩ := fc_un (show (7 : Nat) < 100 from by decide) hf
  have f8 : v_iv (n_v vs 3) < v_iv (n_v vs 4) := f8
  have q2 : n_v vs 2 = n_v vs 0 := f4.symm
  rw [q2] at f1
  rw [q2] at f2
  rw [q2] at f3
  rw [q2] at f5
  have cr_0_2 : ta (w_ar ws (n_v vs 0) 2) = some 152 := tv_rg (th_fd hD hth r0 (g := GG_150) rfl (k := 2) (t := (2, 0, 0, [152])) rfl rfl)
  have br_0_2_F5_1_0 : w_ei ws (w_ar ws (n_v vs 0) 2) (w_fi ws (n_v vs 0) 5 + 1) = w_el ws (w_ar ws (n_v vs 0) 2) (w_fi ws (n_v vs 0) 5 + 1).toNat := rfl
  have kz_0_170 : 0 ≤ w_fi ws (n_v vs 0) 170 ∧ w_fi ws (n_v vs 0) 170 ≤ 100000000 := tv_rng (th_fd hD hth r0 (g := GG_150) rfl (k := 170) (t := (0, 0, 100000000, [])) rfl rfl)
  have kv0 : 0 ≤ w_fi ws (n_v vs 0) 170 ∧ w_fi ws (n_v vs 0) 170 ≤ 100000000 := tv_rng (th_fd hD hth r0 (g := GG_150) rfl (k := 170) (t := (0, 0, 100000000, [])) rfl rfl)
  obtain ⟨x, ex, hx⟩ := iv_ex (ta := ta) (lo := 0) (hi := 99999997) (z := w_fi ws (n_v vs 0) 170) (by omega) (by omega) (by omega) (by omega)
  have ex2 : v_iv (Value.int x) = w_fi ws (n_v vs 0) 170 := ex
  have ex3 : 0 ≤ v_iv (Value.int x) ∧ v_iv (Value.int x) ≤ 99999997 := tv_rng hx
  have e_1 : n_v (vs ++ [Value.int x]) 1 = n_v vs 1 := n_v_old (by rw [hl]; decide)
  have e_2 : n_v (vs ++ [Value.int x]) 2 = n_v vs 2 := n_v_old (by rw [hl]; decide)
  have e_3 : n_v (vs ++ [Value.int x]) 3 = n_v vs 3 := n_v_old (by rw [hl]; decide)
  have e_10 : n_v (vs ++ [Value.int x]) 10 = Value.int x := n_v_new hl
  have nf0 : fc_1 (20, [2, 10], [30, 0, 1, 1, 170, -1, 0, 0]) ws (vs ++ [Value.int x]) := by
    refine ⟨fun n hn => ?_, ?_⟩
    · have hn : n ∈ [2, 10] := hn
      rw [List.length_append, hl]
      simp only [List.mem_cons, List.not_mem_nil, or_false] at hn
      show n < 10 + 1; omega
    · show 1 * w_fi ws (n_v (vs ++ [Value.int x]) 2) 170 + ((-1) * v_iv (n_v (vs ++ [Value.int x]) 10) + 0) ≤ 0
      rw [e_2]
      rw [e_10]
      rw [q2]
      omega
  have nf1 : fc_1 (23, [10, 1, 3], [8, 1, -1, -44]) ws (vs ++ [Value.int x]) := by
    refine ⟨fun n hn => ?_, ?_⟩
    · have hn : n ∈ [10, 1, 3] := hn
      rw [List.length_append, hl]
      simp only [List.mem_cons, List.not_mem_nil, or_false] at hn
      show n < 10 + 1; omega
    · show 1 * v_iv (n_v (vs ++ [Value.int x]) 10) + ((-1) * v_iv (n_v (vs ++ [Value.int x]) 1) + ((-44) * v_iv (n_v (vs ++ [Value.int x]) 3) + 0)) ≤ 8
      rw [e_1]
      rw [e_3]
      rw [e_10]
      omega
  exact ⟨(fun _ h => (by cases h)), [Value.int x], ag_one hx, List.forall_mem_cons.mpr ⟨⟨show (20 : Nat) < 100 from by decide, nf0⟩, List.forall_mem_cons.mpr ⟨⟨show (23 : Nat) < 100 from by decide, nf1⟩, (fun _ h => (by cases h))⟩⟩, (fun _ h => (by cases h))⟩
def o_Mo_writeEdges_4 : or_T := (47, 12, [(0, (2, 0, 0, [150])), (1, (0, 0, 99997888, [])), (2, (2, 0, 0, [150])), (3, (0, 0, 47, [])), (4, (0, 1, 48, [])), (5, (0, 0, 23, [])), (6, (0, 0, 99999992, [])), (10, (0, 0, 99999997, [])), (11, (0, 0, 23, []))], [(20, [11, 2, 3], [50, 1, 1, 1005, 1002, 1, 2, 1, 0, 3, 1, 2, 4, 7, 4, 3, 2, 1, 5, 0, 315, 1, 2]), (23, [10, 1, 3], [8, 1, -1, -44]), (23, [6, 1, 3], [0, 1, -1, -44]), (20, [5, 2, 3], [50, 1, 1, 1005, 1002, 1, 2, 1, 0, 3, 1, 2, 4, 7, 4, 3, 2, 1, 5, 0, 267, 1, 2]), (20, [4, 2], [30, 0, 1, 0, 0, -1, 3, 2005001]), (20, [4, 2], [30, 0, -1, 0, 0, 1, 3, 2005001]), (24, [0, 2], []), (20, [2, 10], [30, 3, 1, 1, 170, -1, 0, 0]), (102, [10], [237142198758023568227473377297792835283496928595231875152809132048206089502588928, 13170]), (23, [10, 1, 3], [8, 1, -1, -44]), (23, [6, 1, 3], [0, 1, -1, -44]), (102, [6], [237142198758023568227473377297792835283496928595231875152809132048206089502588928, 13170]), (23, [6, 1, 3], [0, 1, -1, -44]), (7, [3, 4], [2])], [], [(0, 0, 99999992, [])], [(20, [2, 12], [30, 0, 1, 1, 170, -1, 0, 0]), (23, [12, 1, 3], [11, 1, -1, -44])], [], [(3, 4, -4294967296, -1)])
theorem oo_Mo_writeEdges_4 {kA : Nat → ClassId} : or_ok kA GG o_Mo_writeEdges_4 := by
  intro A ta ws vs hD hth hl hk hds hf
  have hl : vs.length = 12 := hl
  have hk : ∀ q ∈ ([(0, (2, 0, 0, [150])), (1, (0, 0, 99997888, [])), (2, (2, 0, 0, [150])), (3, (0, 0, 47, [])), (4, (0, 1, 48, [])), (5, (0, 0, 23, [])), (6, (0, 0, 99999992, [])), (10, (0, 0, 99999997, [])), (11, (0, 0, 23, []))] : List (Nat × tv_T)), tv_ok ta q.2 (n_v vs q.1) := hk
  obtain ⟨t0, hk⟩ := List.forall_mem_cons.mp hk
  have t0 : tv_ok ta (2, 0, 0, [150]) (n_v vs 0) := t0
  have r0 : ta (v_ad (n_v vs 0)) = some 150 := tv_rg t0
  obtain ⟨t1, hk⟩ := List.forall_mem_cons.mp hk
  have t1 : tv_ok ta (0, 0, 99997888, []) (n_v vs 1) := t1
  have k1 : 0 ≤ v_iv (n_v vs 1) ∧ v_iv (n_v vs 1) ≤ 99997888 := tv_rng t1
  obtain ⟨t2, hk⟩ := List.forall_mem_cons.mp hk
  have t2 : tv_ok ta (2, 0, 0, [150]) (n_v vs 2) := t2
  have r2 : ta (v_ad (n_v vs 2)) = some 150 := tv_rg t2
  obtain ⟨t3, hk⟩ := List.forall_mem_cons.mp hk
  have t3 : tv_ok ta (0, 0, 47, []) (n_v vs 3) := t3
  have k3 : 0 ≤ v_iv (n_v vs 3) ∧ v_iv (n_v vs 3) ≤ 47 := tv_rng t3
  obtain ⟨t4, hk⟩ := List.forall_mem_cons.mp hk
  have t4 : tv_ok ta (0, 1, 48, []) (n_v vs 4) := t4
  have k4 : 1 ≤ v_iv (n_v vs 4) ∧ v_iv (n_v vs 4) ≤ 48 := tv_rng t4
  obtain ⟨t5, hk⟩ := List.forall_mem_cons.mp hk
  have t5 : tv_ok ta (0, 0, 23, []) (n_v vs 5) := t5
  have k5 : 0 ≤ v_iv (n_v vs 5) ∧ v_iv (n_v vs 5) ≤ 23 := tv_rng t5
  obtain ⟨t6, hk⟩ := List.forall_mem_cons.mp hk
  have t6 : tv_ok ta (0, 0, 99999992, []) (n_v vs 6) := t6
  have k6 : 0 ≤ v_iv (n_v vs 6) ∧ v_iv (n_v vs 6) ≤ 99999992 := tv_rng t6
  obtain ⟨t10, hk⟩ := List.forall_mem_cons.mp hk
  have t10 : tv_ok ta (0, 0, 99999997, []) (n_v vs 10) := t10
  have k10 : 0 ≤ v_iv (n_v vs 10) ∧ v_iv (n_v vs 10) ≤ 99999997 := tv_rng t10
  obtain ⟨t11, hk⟩ := List.forall_mem_cons.mp hk
  have t11 : tv_ok ta (0, 0, 23, []) (n_v vs 11) := t11
  have k11 : 0 ≤ v_iv (n_v vs 11) ∧ v_iv (n_v vs 11) ≤ 23 := tv_rng t11
  have hds : ∀ q ∈ ([(3, 4, -4294967296, -1)] : List of_T), n_iv vs q.2.1 + q.2.2.1 ≤ n_iv vs q.1 ∧ n_iv vs q.1 ≤ n_iv vs q.2.1 + q.2.2.2 := hds
  obtain ⟨d0, hds⟩ := List.forall_mem_cons.mp hds
  have d0 : v_iv (n_v vs 4) + (-4294967296) ≤ v_iv (n_v vs 3) ∧ v_iv (n_v vs 3) ≤ v_iv (n_v vs 4) + (-1) := d0
  have hf : fc_ok [(20, [11, 2, 3], [50, 1, 1, 1005, 1002, 1, 2, 1, 0, 3, 1, 2, 4, 7, 4, 3, 2, 1, 5, 0, 315, 1, 2]), (23, [10, 1, 3], [8, 1, -1, -44]), (23, [6, 1, 3], [0, 1, -1, -44]), (20, [5, 2, 3], [50, 1, 1, 1005, 1002, 1, 2, 1, 0, 3, 1, 2, 4, 7, 4, 3, 2, 1, 5, 0, 267, 1, 2]), (20, [4, 2], [30, 0, 1, 0, 0, -1, 3, 2005001]), (20, [4, 2], [30, 0, -1, 0, 0, 1, 3, 2005001]), (24, [0, 2], []), (20, [2, 10], [30, 3, 1, 1, 170, -1, 0, 0]), (102, [10], [237142198758023568227473377297792835283496928595231875152809132048206089502588928, 13170]), (23, [10, 1, 3], [8, 1, -1, -44]), (23, [6, 1, 3], [0, 1, -1, -44]), (102, [6], [237142198758023568227473377297792835283496928595231875152809132048206089502588928, 13170]), (23, [6, 1, 3], [0, 1, -1, -44]), (7, [3, 4], [2])] ta ws vs := hf
  obtain ⟨f0, hf⟩ := fc_un (show (20 : Nat) < 100 from by decide) hf
  have f0 : v_iv (n_v vs 11) = w_ei ws (w_ar ws (n_v vs 2) 2) (((w_fi ws (n_v vs 2) 5 + 315) + v_iv (n_v vs 3))) := f0
  obtain ⟨f1, hf⟩ := fc_un (show (23 : Nat) < 100 from by decide) hf
  have f1 : 1 * v_iv (n_v vs 10) + ((-1) * v_iv (n_v vs 1) + ((-44) * v_iv (n_v vs 3) + 0)) ≤ 8 := f1
  obtain ⟨f2, hf⟩ := fc_un (show (23 : Nat) < 100 from by decide) hf
  have f2 : 1 * v_iv (n_v vs 6) + ((-1) * v_iv (n_v vs 1) + ((-44) * v_iv (n_v vs 3) + 0)) ≤ 0 := f2
  obtain ⟨f3, hf⟩ := fc_un (show (20 : Nat) < 100 from by decide) hf
  have f3 : v_iv (n_v vs 5) = w_ei ws (w_ar ws (n_v vs 2) 2) (((w_fi ws (n_v vs 2) 5 + 267) + v_iv (n_v vs 3))) := f3
  obtain ⟨f4, hf⟩ := fc_un (show (20 : Nat) < 100 from by decide) hf
  have f4 : 1 * v_iv (n_v vs 4) + ((-1) * w_el ws (w_ar ws (n_v vs 2) 2) (w_fi ws (n_v vs 2) 5 + 1).toNat + 0) ≤ 0 := f4
  obtain ⟨f5, hf⟩ := fc_un (show (20 : Nat) < 100 from by decide) hf
  have f5 : (-1) * v_iv (n_v vs 4) + (1 * w_el ws (w_ar ws (n_v vs 2) 2) (w_fi ws (n_v vs 2) 5 + 1).toNat + 0) ≤ 0 := f5
  obtain ⟨f6, hf⟩ := fc_un (show (24 : Nat) < 100 from by decide) hf
  have f6 : n_v vs 0 = n_v vs 2 := f6
  obtain ⟨f7, hf⟩ := fc_un (show (20 : Nat) < 100 from by decide) hf
  have f7 : 1 * w_fi ws (n_v vs 2) 170 + ((-1) * v_iv (n_v vs 10) + 0) ≤ 3 := f7
  obtain ⟨ta1, w1, le1, ⟨_, s1⟩, hf⟩ := fc_us (show ¬ (102 : Nat) < 100 from by decide) hf
  obtain ⟨f9, hf⟩ := fc_un (show (23 : Nat) < 100 from by decide) hf
  have f9 : 1 * v_iv (n_v vs 10) + ((-1) * v_iv (n_v vs 1) + ((-44) * v_iv (n_v vs 3) + 0)) ≤ 8 := f9
  obtain ⟨f10, hf⟩ := fc_un (show (23 : Nat) < 100 from by decide) hf
  have f10 : 1 * v_iv (n_v vs 6) + ((-1) * v_iv (n_v vs 1) + ((-44) * v_iv (n_v vs 3) + 0)) ≤ 0 := f10
  obtain ⟨ta2, w2, le2, ⟨_, s2⟩, hf⟩ := fc_us (show ¬ (102 : Nat) < 100 from by decide) hf
  obtain ⟨f12, hf⟩ := fc_un (show (23 : Nat) < 100 from by decide) hf
  have f12 : 1 * v_iv (n_v vs 6) + ((-1) * v_iv (n_v vs 1) + ((-44) * v_iv (n_v vs 3) + 0)) ≤ 0 := f12
  obtain ⟨f13, hf⟩ := fc_un (show (7 : Nat) < 100 from by decide) hf
  have f13 : v_iv (n_v vs 3) < v_iv (n_v vs 4) := f13
  have q2 : n_v vs 2 = n_v vs 0 := f6.symm
  rw [q2] at f0
  rw [q2] at f3
  rw [q2] at f4
  rw [q2] at f5
  rw [q2] at f7
  have cr_0_2 : ta (w_ar ws (n_v vs 0) 2) = some 152 := tv_rg (th_fd hD hth r0 (g := GG_150) rfl (k := 2) (t := (2, 0, 0, [152])) rfl rfl)
  have br_0_2_F5_1_0 : w_ei ws (w_ar ws (n_v vs 0) 2) (w_fi ws (n_v vs 0) 5 + 1) = w_el ws (w_ar ws (n_v vs 0) 2) (w_fi ws (n_v vs 0) 5 + 1).toNat := rfl
  have kz_0_170 : 0 ≤ w_fi ws (n_v vs 0) 170 ∧ w_fi ws (n_v vs 0) 170 ≤ 100000000 := tv_rng (th_fd hD hth r0 (g := GG_150) rfl (k := 170) (t := (0, 0, 100000000, [])) rfl rfl)
  have kv0 : 0 ≤ w_fi ws (n_v vs 0) 170 ∧ w_fi ws (n_v vs 0) 170 ≤ 100000000 := tv_rng (th_fd hD hth r0 (g := GG_150) rfl (k := 170) (t := (0, 0, 100000000, [])) rfl rfl)
  obtain ⟨x, ex, hx⟩ := iv_ex (ta := ta) (lo := 0) (hi := 99999992) (z := w_fi ws (n_v vs 0) 170) (by omega) (by omega) (by omega) (by omega)
  have ex2 : v_iv (Value.int x) = w_fi ws (n_v vs 0) 170 := ex
  have ex3 : 0 ≤ v_iv (Value.int x) ∧ v_iv (Value.int x) ≤ 99999992 := tv_rng hx
  have e_1 : n_v (vs ++ [Value.int x]) 1 = n_v vs 1 := n_v_old (by rw [hl]; decide)
  have e_2 : n_v (vs ++ [Value.int x]) 2 = n_v vs 2 := n_v_old (by rw [hl]; decide)
  have e_3 : n_v (vs ++ [Value.int x]) 3 = n_v vs 3 := n_v_old (by rw [hl]; decide)
  have e_12 : n_v (vs ++ [Value.int x]) 12 = Value.int x := n_v_new hl
  have nf0 : fc_1 (20, [2, 12], [30, 0, 1, 1, 170, -1, 0, 0]) ws (vs ++ [Value.int x]) := by
    refine ⟨fun n hn => ?_, ?_⟩
    · have hn : n ∈ [2, 12] := hn
      rw [List.length_append, hl]
      simp only [List.mem_cons, List.not_mem_nil, or_false] at hn
      show n < 12 + 1; omega
    · show 1 * w_fi ws (n_v (vs ++ [Value.int x]) 2) 170 + ((-1) * v_iv (n_v (vs ++ [Value.int x]) 12) + 0) ≤ 0
      rw [e_2]
      rw [e_12]
      rw [q2]
      omega
  have nf1 : fc_1 (23, [12, 1, 3], [11, 1, -1, -44]) ws (vs ++ [Value.int x]) := by
    refine ⟨fun n hn => ?_, ?_⟩
    · have hn : n ∈ [12, 1, 3] := hn
      rw [List.length_append, hl]
      simp only [List.mem_cons, List.not_mem_nil, or_false] at hn
      show n < 12 + 1; omega
    · show 1 * v_iv (n_v (vs ++ [Value.int x]) 12) + ((-1) * v_iv (n_v (vs ++ [Value.int x]) 1) + ((-44) * v_iv (n_v (vs ++ [Value.int x]) 3) + 0)) ≤ 11
      rw [e_1]
      rw [e_3]
      rw [e_12]
      omega
  exact ⟨(fun _ h => (by cases h)), [Value.int x], ag_one hx, List.forall_mem_cons.mpr ⟨⟨show (20 : Nat) < 100 from by decide, nf0⟩, List.forall_mem_cons.mpr ⟨⟨show (23 : Nat) < 100 from by decide, nf1⟩, (fun _ h => (by cases h))⟩⟩, (fun _ h => (by cases h))⟩
def o_Mo_writeEdges_5 : or_T := (86, 16, [(0, (2, 0, 0, [150])), (1, (0, 0, 99997888, [])), (2, (2, 0, 0, [150])), (3, (0, 0, 47, [])), (4, (0, 1, 48, [])), (5, (0, 0, 23, [])), (6, (0, 0, 99999992, [])), (10, (0, 0, 99999997, [])), (11, (0, 0, 23, [])), (12, (0, 0, 99999992, []))], [(23, [12, 1, 3], [11, 1, -1, -44]), (20, [11, 2, 3], [50, 1, 1, 1005, 1002, 1, 2, 1, 0, 3, 1, 2, 4, 7, 4, 3, 2, 1, 5, 0, 315, 1, 2]), (23, [10, 1, 3], [8, 1, -1, -44]), (23, [6, 1, 3], [0, 1, -1, -44]), (20, [5, 2, 3], [50, 1, 1, 1005, 1002, 1, 2, 1, 0, 3, 1, 2, 4, 7, 4, 3, 2, 1, 5, 0, 267, 1, 2]), (20, [4, 2], [30, 0, 1, 0, 0, -1, 3, 2005001]), (20, [4, 2], [30, 0, -1, 0, 0, 1, 3, 2005001]), (24, [0, 2], []), (20, [2, 12], [30, 8, 1, 1, 170, -1, 0, 0]), (102, [12], [237142198758023568227473377297792835283496928595231875152809132048206089502588928, 13170]), (23, [12, 1, 3], [11, 1, -1, -44]), (23, [10, 1, 3], [8, 1, -1, -44]), (23, [6, 1, 3], [0, 1, -1, -44]), (102, [10], [237142198758023568227473377297792835283496928595231875152809132048206089502588928, 13170]), (23, [10, 1, 3], [8, 1, -1, -44]), (23, [6, 1, 3], [0, 1, -1, -44]), (102, [6], [237142198758023568227473377297792835283496928595231875152809132048206089502588928, 13170]), (23, [6, 1, 3], [0, 1, -1, -44]), (7, [3, 4], [2])], [], [(0, 0, 99999998, [])], [(20, [2, 16], [30, 0, 1, 1, 170, -1, 0, 0]), (23, [16, 1, 3], [42, 1, -1, -44])], [], [(3, 4, -4294967296, -1)])
theorem oo_Mo_writeEdges_5 {kA : Nat → ClassId} : or_ok kA GG o_Mo_writeEdges_5 := by
  intro A ta ws vs hD hth hl hk hds hf
  have hl : vs.length = 16 := hl
  have hk : ∀ q ∈ ([(0, (2, 0, 0, [150])), (1, (0, 0, 99997888, [])), (2, (2, 0, 0, [150])), (3, (0, 0, 47, [])), (4, (0, 1, 48, [])), (5, (0, 0, 23, [])), (6, (0, 0, 99999992, [])), (10, (0, 0, 99999997, [])), (11, (0, 0, 23, [])), (12, (0, 0, 99999992, []))] : List (Nat × tv_T)), tv_ok ta q.2 (n_v vs q.1) := hk
  obtain ⟨t0, hk⟩ := List.forall_mem_cons.mp hk
  have t0 : tv_ok ta (2, 0, 0, [150]) (n_v vs 0) := t0
  have r0 : ta (v_ad (n_v vs 0)) = some 150 := tv_rg t0
  obtain ⟨t1, hk⟩ := List.forall_mem_cons.mp hk
  have t1 : tv_ok ta (0, 0, 99997888, []) (n_v vs 1) := t1
  have k1 : 0 ≤ v_iv (n_v vs 1) ∧ v_iv (n_v vs 1) ≤ 99997888 := tv_rng t1
  obtain ⟨t2, hk⟩ := List.forall_mem_cons.mp hk
  have t2 : tv_ok ta (2, 0, 0, [150]) (n_v vs 2) := t2
  have r2 : ta (v_ad (n_v vs 2)) = some 150 := tv_rg t2
  obtain ⟨t3, hk⟩ := List.forall_mem_cons.mp hk
  have t3 : tv_ok ta (0, 0, 47, []) (n_v vs 3) := t3
  have k3 : 0 ≤ v_iv (n_v vs 3) ∧ v_iv (n_v vs 3) ≤ 47 := tv_rng t3
  obtain ⟨t4, hk⟩ := List.forall_mem_cons.mp hk
  have t4 : tv_ok ta (0, 1, 48, []) (n_v vs 4) := t4
  have k4 : 1 ≤ v_iv (n_v vs 4) ∧ v_iv (n_v vs 4) ≤ 48 := tv_rng t4
  obtain ⟨t5, hk⟩ := List.forall_mem_cons.mp hk
  have t5 : tv_ok ta (0, 0, 23, []) (n_v vs 5) := t5
  have k5 : 0 ≤ v_iv (n_v vs 5) ∧ v_iv (n_v vs 5) ≤ 23 := tv_rng t5
  obtain ⟨t6, hk⟩ := List.forall_mem_cons.mp hk
  have t6 : tv_ok ta (0, 0, 99999992, []) (n_v vs 6) := t6
  have k6 : 0 ≤ v_iv (n_v vs 6) ∧ v_iv (n_v vs 6) ≤ 99999992 := tv_rng t6
  obtain ⟨t10, hk⟩ := List.forall_mem_cons.mp hk
  have t10 : tv_ok ta (0, 0, 99999997, []) (n_v vs 10) := t10
  have k10 : 0 ≤ v_iv (n_v vs 10) ∧ v_iv (n_v vs 10) ≤ 99999997 := tv_rng t10
  obtain ⟨t11, hk⟩ := List.forall_mem_cons.mp hk
  have t11 : tv_ok ta (0, 0, 23, []) (n_v vs 11) := t11
  have k11 : 0 ≤ v_iv (n_v vs 11) ∧ v_iv (n_v vs 11) ≤ 23 := tv_rng t11
  obtain ⟨t12, hk⟩ := List.forall_mem_cons.mp hk
  have t12 : tv_ok ta (0, 0, 99999992, []) (n_v vs 12) := t12
  have k12 : 0 ≤ v_iv (n_v vs 12) ∧ v_iv (n_v vs 12) ≤ 99999992 := tv_rng t12
  have hds : ∀ q ∈ ([(3, 4, -4294967296, -1)] : List of_T), n_iv vs q.2.1 + q.2.2.1 ≤ n_iv vs q.1 ∧ n_iv vs q.1 ≤ n_iv vs q.2.1 + q.2.2.2 := hds
  obtain ⟨d0, hds⟩ := List.forall_mem_cons.mp hds
  have d0 : v_iv (n_v vs 4) + (-4294967296) ≤ v_iv (n_v vs 3) ∧ v_iv (n_v vs 3) ≤ v_iv (n_v vs 4) + (-1) := d0
  have hf : fc_ok [(23, [12, 1, 3], [11, 1, -1, -44]), (20, [11, 2, 3], [50, 1, 1, 1005, 1002, 1, 2, 1, 0, 3, 1, 2, 4, 7, 4, 3, 2, 1, 5, 0, 315, 1, 2]), (23, [10, 1, 3], [8, 1, -1, -44]), (23, [6, 1, 3], [0, 1, -1, -44]), (20, [5, 2, 3], [50, 1, 1, 1005, 1002, 1, 2, 1, 0, 3, 1, 2, 4, 7, 4, 3, 2, 1, 5, 0, 267, 1, 2]), (20, [4, 2], [30, 0, 1, 0, 0, -1, 3, 2005001]), (20, [4, 2], [30, 0, -1, 0, 0, 1, 3, 2005001]), (24, [0, 2], []), (20, [2, 12], [30, 8, 1, 1, 170, -1, 0, 0]), (102, [12], [237142198758023568227473377297792835283496928595231875152809132048206089502588928, 13170]), (23, [12, 1, 3], [11, 1, -1, -44]), (23, [10, 1, 3], [8, 1, -1, -44]), (23, [6, 1, 3], [0, 1, -1, -44]), (102, [10], [237142198758023568227473377297792835283496928595231875152809132048206089502588928, 13170]), (23, [10, 1, 3], [8, 1, -1, -44]), (23, [6, 1, 3], [0, 1, -1, -44]), (102, [6], [237142198758023568227473377297792835283496928595231875152809132048206089502588928, 13170]), (23, [6, 1, 3], [0, 1, -1, -44]), (7, [3, 4], [2])] ta ws vs := hf
  obtain ⟨f0, hf⟩ := fc_un (show (23 : Nat) < 100 from by decide) hf
  have f0 : 1 * v_iv (n_v vs 12) + ((-1) * v_iv (n_v vs 1) + ((-44) * v_iv (n_v vs 3) + 0)) ≤ 11 := f0
  obtain ⟨f1, hf⟩ := fc_un (show (20 : Nat) < 100 from by decide) hf
  have f1 : v_iv (n_v vs 11) = w_ei ws (w_ar ws (n_v vs 2) 2) (((w_fi ws (n_v vs 2) 5 + 315) + v_iv (n_v vs 3))) := f1
  obtain ⟨f2, hf⟩ := fc_un (show (23 : Nat) < 100 from by decide) hf
  have f2 : 1 * v_iv (n_v vs 10) + ((-1) * v_iv (n_v vs 1) + ((-44) * v_iv (n_v vs 3) + 0)) ≤ 8 := f2
  obtain ⟨f3, hf⟩ := fc_un (show (23 : Nat) < 100 from by decide) hf
  have f3 : 1 * v_iv (n_v vs 6) + ((-1) * v_iv (n_v vs 1) + ((-44) * v_iv (n_v vs 3) + 0)) ≤ 0 := f3
  obtain ⟨f4, hf⟩ := fc_un (show (20 : Nat) < 100 from by decide) hf
  have f4 : v_iv (n_v vs 5) = w_ei ws (w_ar ws (n_v vs 2) 2) (((w_fi ws (n_v vs 2) 5 + 267) + v_iv (n_v vs 3))) := f4
  obtain ⟨f5, hf⟩ := fc_un (show (20 : Nat) < 100 from by decide) hf
  have f5 : 1 * v_iv (n_v vs 4) + ((-1) * w_el ws (w_ar ws (n_v vs 2) 2) (w_fi ws (n_v vs 2) 5 + 1).toNat + 0) ≤ 0 := f5
  obtain ⟨f6, hf⟩ := fc_un (show (20 : Nat) < 100 from by decide) hf
  have f6 : (-1) * v_iv (n_v vs 4) + (1 * w_el ws (w_ar ws (n_v vs 2) 2) (w_fi ws (n_v vs 2) 5 + 1).toNat + 0) ≤ 0 := f6
  obtain ⟨f7, hf⟩ := fc_un (show (24 : Nat) < 100 from by decide) hf
  have f7 : n_v vs 0 = n_v vs 2 := f7
  obtain ⟨f8, hf⟩ := fc_un (show (20 : Nat) < 100 from by decide) hf
  have f8 : 1 * w_fi ws (n_v vs 2) 170 + ((-1) * v_iv (n_v vs 12) + 0) ≤ 8 := f8
  obtain ⟨ta1, w1, le1, ⟨_, s1⟩, hf⟩ := fc_us (show ¬ (102 : Nat) < 100 from by decide) hf
  obtain ⟨f10, hf⟩ := fc_un (show (23 : Nat) < 100 from by decide) hf
  have f10 : 1 * v_iv (n_v vs 12) + ((-1) * v_iv (n_v vs 1) + ((-44) * v_iv (n_v vs 3) + 0)) ≤ 11 := f10
  obtain ⟨f11, hf⟩ := fc_un (show (23 : Nat) < 100 from by decide) hf
  have f11 : 1 * v_iv (n_v vs 10) + ((-1) * v_iv (n_v vs 1) + ((-44) * v_iv (n_v vs 3) + 0)) ≤ 8 := f11
  obtain ⟨f12, hf⟩ := fc_un (show (23 : Nat) < 100 from by decide) hf
  have f12 : 1 * v_iv (n_v vs 6) + ((-1) * v_iv (n_v vs 1) + ((-44) * v_iv (n_v vs 3) + 0)) ≤ 0 := f12
  obtain ⟨ta2, w2, le2, ⟨_, s2⟩, hf⟩ := fc_us (show ¬ (102 : Nat) < 100 from by decide) hf
  obtain ⟨f14, hf⟩ := fc_un (show (23 : Nat) < 100 from by decide) hf
  have f14 : 1 * v_iv (n_v vs 10) + ((-1) * v_iv (n_v vs 1) + ((-44) * v_iv (n_v vs 3) + 0)) ≤ 8 := f14
  obtain ⟨f15, hf⟩ := fc_un (show (23 : Nat) < 100 from by decide) hf
  have f15 : 1 * v_iv (n_v vs 6) + ((-1) * v_iv (n_v vs 1) + ((-44) * v_iv (n_v vs 3) + 0)) ≤ 0 := f15
  obtain ⟨ta3, w3, le3, ⟨_, s3⟩, hf⟩ := fc_us (show ¬ (102 : Nat) < 100 from by decide) hf
  obtain ⟨f17, hf⟩ := fc_un (show (23 : Nat) < 100 from by decide) hf
  have f17 : 1 * v_iv (n_v vs 6) + ((-1) * v_iv (n_v vs 1) + ((-44) * v_iv (n_v vs 3) + 0)) ≤ 0 := f17
  obtain ⟨f18, hf⟩ := fc_un (show (7 : Nat) < 100 from by decide) hf
  have f18 : v_iv (n_v vs 3) < v_iv (n_v vs 4) := f18
  have q2 : n_v vs 2 = n_v vs 0 := f7.symm
  rw [q2] at f1
  rw [q2] at f4
  rw [q2] at f5
  rw [q2] at f6
  rw [q2] at f8
  have cr_0_2 : ta (w_ar ws (n_v vs 0) 2) = some 152 := tv_rg (th_fd hD hth r0 (g := GG_150) rfl (k := 2) (t := (2, 0, 0, [152])) rfl rfl)
  have br_0_2_F5_1_0 : w_ei ws (w_ar ws (n_v vs 0) 2) (w_fi ws (n_v vs 0) 5 + 1) = w_el ws (w_ar ws (n_v vs 0) 2) (w_fi ws (n_v vs 0) 5 + 1).toNat := rfl
  have kz_0_170 : 0 ≤ w_fi ws (n_v vs 0) 170 ∧ w_fi ws (n_v vs 0) 170 ≤ 100000000 := tv_rng (th_fd hD hth r0 (g := GG_150) rfl (k := 170) (t := (0, 0, 100000000, [])) rfl rfl)
  have kv0 : 0 ≤ w_fi ws (n_v vs 0) 170 ∧ w_fi ws (n_v vs 0) 170 ≤ 100000000 := tv_rng (th_fd hD hth r0 (g := GG_150) rfl (k := 170) (t := (0, 0, 100000000, [])) rfl rfl)
  obtain ⟨x, ex, hx⟩ := iv_ex (ta := ta) (lo := 0) (hi := 99999998) (z := w_fi ws (n_v vs 0) 170) (by omega) (by omega) (by omega) (by omega)
  have ex2 : v_iv (Value.int x) = w_fi ws (n_v vs 0) 170 := ex
  have ex3 : 0 ≤ v_iv (Value.int x) ∧ v_iv (Value.int x) ≤ 99999998 := tv_rng hx
  have e_1 : n_v (vs ++ [Value.int x]) 1 = n_v vs 1 := n_v_old (by rw [hl]; decide)
  have e_2 : n_v (vs ++ [Value.int x]) 2 = n_v vs 2 := n_v_old (by rw [hl]; decide)
  have e_3 : n_v (vs ++ [Value.int x]) 3 = n_v vs 3 := n_v_old (by rw [hl]; decide)
  have e_16 : n_v (vs ++ [Value.int x]) 16 = Value.int x := n_v_new hl
  have nf0 : fc_1 (20, [2, 16], [30, 0, 1, 1, 170, -1, 0, 0]) ws (vs ++ [Value.int x]) := by
    refine ⟨fun n hn => ?_, ?_⟩
    · have hn : n ∈ [2, 16] := hn
      rw [List.length_append, hl]
      simp only [List.mem_cons, List.not_mem_nil, or_false] at hn
      show n < 16 + 1; omega
    · show 1 * w_fi ws (n_v (vs ++ [Value.int x]) 2) 170 + ((-1) * v_iv (n_v (vs ++ [Value.int x]) 16) + 0) ≤ 0
      rw [e_2]
      rw [e_16]
      rw [q2]
      omega
  have nf1 : fc_1 (23, [16, 1, 3], [42, 1, -1, -44]) ws (vs ++ [Value.int x]) := by
    refine ⟨fun n hn => ?_, ?_⟩
    · have hn : n ∈ [16, 1, 3] := hn
      rw [List.length_append, hl]
      simp only [List.mem_cons, List.not_mem_nil, or_false] at hn
      show n < 16 + 1; omega
    · show 1 * v_iv (n_v (vs ++ [Value.int x]) 16) + ((-1) * v_iv (n_v (vs ++ [Value.int x]) 1) + ((-44) * v_iv (n_v (vs ++ [Value.int x]) 3) + 0)) ≤ 42
      rw [e_1]
      rw [e_3]
      rw [e_16]
      omega
  exact ⟨(fun _ h => (by cases h)), [Value.int x], ag_one hx, List.forall_mem_cons.mpr ⟨⟨show (20 : Nat) < 100 from by decide, nf0⟩, List.forall_mem_cons.mpr ⟨⟨show (23 : Nat) < 100 from by decide, nf1⟩, (fun _ h => (by cases h))⟩⟩, (fun _ h => (by cases h))⟩
def o_Mo_writeEdges_6 : or_T := (2, 18, [(0, (2, 0, 0, [150])), (1, (0, 0, 99997888, [])), (2, (2, 0, 0, [150])), (3, (0, 0, 47, [])), (4, (0, 1, 48, [])), (5, (0, 0, 23, [])), (6, (0, 0, 99999992, [])), (10, (0, 0, 99999997, [])), (11, (0, 0, 23, [])), (12, (0, 0, 99999992, [])), (16, (0, 0, 99999998, [])), (17, (0, 1, 48, []))], [(6, [17, 3], [1]), (23, [16, 1, 3], [42, 1, -1, -44]), (23, [12, 1, 3], [11, 1, -1, -44]), (20, [11, 2, 3], [50, 1, 1, 1005, 1002, 1, 2, 1, 0, 3, 1, 2, 4, 7, 4, 3, 2, 1, 5, 0, 315, 1, 2]), (23, [10, 1, 3], [8, 1, -1, -44]), (23, [6, 1, 3], [0, 1, -1, -44]), (20, [5, 2, 3], [50, 1, 1, 1005, 1002, 1, 2, 1, 0, 3, 1, 2, 4, 7, 4, 3, 2, 1, 5, 0, 267, 1, 2]), (20, [4, 2], [30, 0, 1, 0, 0, -1, 3, 2005001]), (20, [4, 2], [30, 0, -1, 0, 0, 1, 3, 2005001]), (24, [0, 2], []), (20, [2, 16], [30, 2, 1, 1, 170, -1, 0, 0]), (102, [16], [237142198758023568227473377297792835283496928595231875152809132048206089502588928, 13170]), (23, [16, 1, 3], [42, 1, -1, -44]), (23, [12, 1, 3], [11, 1, -1, -44]), (23, [10, 1, 3], [8, 1, -1, -44]), (23, [6, 1, 3], [0, 1, -1, -44]), (102, [12], [237142198758023568227473377297792835283496928595231875152809132048206089502588928, 13170]), (23, [12, 1, 3], [11, 1, -1, -44]), (23, [10, 1, 3], [8, 1, -1, -44]), (23, [6, 1, 3], [0, 1, -1, -44]), (102, [10], [237142198758023568227473377297792835283496928595231875152809132048206089502588928, 13170]), (23, [10, 1, 3], [8, 1, -1, -44]), (23, [6, 1, 3], [0, 1, -1, -44]), (102, [6], [237142198758023568227473377297792835283496928595231875152809132048206089502588928, 13170]), (23, [6, 1, 3], [0, 1, -1, -44]), (7, [3, 4], [2])], [], [], [(20, [2, 1, 17], [30, 0, 1, 1, 170, -1, 0, 0, -44, 0, 0])], [], [(17, 3, 1, 1), (17, 4, -4294967296, 0), (3, 4, -4294967296, -1)])
theorem oo_Mo_writeEdges_6 {kA : Nat → ClassId} : or_ok kA GG o_Mo_writeEdges_6 := by
  intro A ta ws vs hD hth hl hk hds hf
  have hl : vs.length = 18 := hl
  have hk : ∀ q ∈ ([(0, (2, 0, 0, [150])), (1, (0, 0, 99997888, [])), (2, (2, 0, 0, [150])), (3, (0, 0, 47, [])), (4, (0, 1, 48, [])), (5, (0, 0, 23, [])), (6, (0, 0, 99999992, [])), (10, (0, 0, 99999997, [])), (11, (0, 0, 23, [])), (12, (0, 0, 99999992, [])), (16, (0, 0, 99999998, [])), (17, (0, 1, 48, []))] : List (Nat × tv_T)), tv_ok ta q.2 (n_v vs q.1) := hk
  obtain ⟨t0, hk⟩ := List.forall_mem_cons.mp hk
  have t0 : tv_ok ta (2, 0, 0, [150]) (n_v vs 0) := t0
  have r0 : ta (v_ad (n_v vs 0)) = some 150 := tv_rg t0
  obtain ⟨t1, hk⟩ := List.forall_mem_cons.mp hk
  have t1 : tv_ok ta (0, 0, 99997888, []) (n_v vs 1) := t1
  have k1 : 0 ≤ v_iv (n_v vs 1) ∧ v_iv (n_v vs 1) ≤ 99997888 := tv_rng t1
  obtain ⟨t2, hk⟩ := List.forall_mem_cons.mp hk
  have t2 : tv_ok ta (2, 0, 0, [150]) (n_v vs 2) := t2
  have r2 : ta (v_ad (n_v vs 2)) = some 150 := tv_rg t2
  obtain ⟨t3, hk⟩ := List.forall_mem_cons.mp hk
  have t3 : tv_ok ta (0, 0, 47, []) (n_v vs 3) := t3
  have k3 : 0 ≤ v_iv (n_v vs 3) ∧ v_iv (n_v vs 3) ≤ 47 := tv_rng t3
  obtain ⟨t4, hk⟩ := List.forall_mem_cons.mp hk
  have t4 : tv_ok ta (0, 1, 48, []) (n_v vs 4) := t4
  have k4 : 1 ≤ v_iv (n_v vs 4) ∧ v_iv (n_v vs 4) ≤ 48 := tv_rng t4
  obtain ⟨t5, hk⟩ := List.forall_mem_cons.mp hk
  have t5 : tv_ok ta (0, 0, 23, []) (n_v vs 5) := t5
  have k5 : 0 ≤ v_iv (n_v vs 5) ∧ v_iv (n_v vs 5) ≤ 23 := tv_rng t5
  obtain ⟨t6, hk⟩ := List.forall_mem_cons.mp hk
  have t6 : tv_ok ta (0, 0, 99999992, []) (n_v vs 6) := t6
  have k6 : 0 ≤ v_iv (n_v vs 6) ∧ v_iv (n_v vs 6) ≤ 99999992 := tv_rng t6
  obtain ⟨t10, hk⟩ := List.forall_mem_cons.mp hk
  have t10 : tv_ok ta (0, 0, 99999997, []) (n_v vs 10) := t10
  have k10 : 0 ≤ v_iv (n_v vs 10) ∧ v_iv (n_v vs 10) ≤ 99999997 := tv_rng t10
  obtain ⟨t11, hk⟩ := List.forall_mem_cons.mp hk
  have t11 : tv_ok ta (0, 0, 23, []) (n_v vs 11) := t11
  have k11 : 0 ≤ v_iv (n_v vs 11) ∧ v_iv (n_v vs 11) ≤ 23 := tv_rng t11
  obtain ⟨t12, hk⟩ := List.forall_mem_cons.mp hk
  have t12 : tv_ok ta (0, 0, 99999992, []) (n_v vs 12) := t12
  have k12 : 0 ≤ v_iv (n_v vs 12) ∧ v_iv (n_v vs 12) ≤ 99999992 := tv_rng t12
  obtain ⟨t16, hk⟩ := List.forall_mem_cons.mp hk
  have t16 : tv_ok ta (0, 0, 99999998, []) (n_v vs 16) := t16
  have k16 : 0 ≤ v_iv (n_v vs 16) ∧ v_iv (n_v vs 16) ≤ 99999998 := tv_rng t16
  obtain ⟨t17, hk⟩ := List.forall_mem_cons.mp hk
  have t17 : tv_ok ta (0, 1, 48, []) (n_v vs 17) := t17
  have k17 : 1 ≤ v_iv (n_v vs 17) ∧ v_iv (n_v vs 17) ≤ 48 := tv_rng t17
  have hds : ∀ q ∈ ([(17, 3, 1, 1), (17, 4, -4294967296, 0), (3, 4, -4294967296, -1)] : List of_T), n_iv vs q.2.1 + q.2.2.1 ≤ n_iv vs q.1 ∧ n_iv vs q.1 ≤ n_iv vs q.2.1 + q.2.2.2 := hds
  obtain ⟨d0, hds⟩ := List.forall_mem_cons.mp hds
  have d0 : v_iv (n_v vs 3) + 1 ≤ v_iv (n_v vs 17) ∧ v_iv (n_v vs 17) ≤ v_iv (n_v vs 3) + 1 := d0
  obtain ⟨d1, hds⟩ := List.forall_mem_cons.mp hds
  have d1 : v_iv (n_v vs 4) + (-4294967296) ≤ v_iv (n_v vs 17) ∧ v_iv (n_v vs 17) ≤ v_iv (n_v vs 4) + 0 := d1
  obtain ⟨d2, hds⟩ := List.forall_mem_cons.mp hds
  have d2 : v_iv (n_v vs 4) + (-4294967296) ≤ v_iv (n_v vs 3) ∧ v_iv (n_v vs 3) ≤ v_iv (n_v vs 4) + (-1) := d2
  have hf : fc_ok [(6, [17, 3], [1]), (23, [16, 1, 3], [42, 1, -1, -44]), (23, [12, 1, 3], [11, 1, -1, -44]), (20, [11, 2, 3], [50, 1, 1, 1005, 1002, 1, 2, 1, 0, 3, 1, 2, 4, 7, 4, 3, 2, 1, 5, 0, 315, 1, 2]), (23, [10, 1, 3], [8, 1, -1, -44]), (23, [6, 1, 3], [0, 1, -1, -44]), (20, [5, 2, 3], [50, 1, 1, 1005, 1002, 1, 2, 1, 0, 3, 1, 2, 4, 7, 4, 3, 2, 1, 5, 0, 267, 1, 2]), (20, [4, 2], [30, 0, 1, 0, 0, -1, 3, 2005001]), (20, [4, 2], [30, 0, -1, 0, 0, 1, 3, 2005001]), (24, [0, 2], []), (20, [2, 16], [30, 2, 1, 1, 170, -1, 0, 0]), (102, [16], [237142198758023568227473377297792835283496928595231875152809132048206089502588928, 13170]), (23, [16, 1, 3], [42, 1, -1, -44]), (23, [12, 1, 3], [11, 1, -1, -44]), (23, [10, 1, 3], [8, 1, -1, -44]), (23, [6, 1, 3], [0, 1, -1, -44]), (102, [12], [237142198758023568227473377297792835283496928595231875152809132048206089502588928, 13170]), (23, [12, 1, 3], [11, 1, -1, -44]), (23, [10, 1, 3], [8, 1, -1, -44]), (23, [6, 1, 3], [0, 1, -1, -44]), (102, [10], [237142198758023568227473377297792835283496928595231875152809132048206089502588928, 13170]), (23, [10, 1, 3], [8, 1, -1, -44]), (23, [6, 1, 3], [0, 1, -1, -44]), (102, [6], [237142198758023568227473377297792835283496928595231875152809132048206089502588928, 13170]), (23, [6, 1, 3], [0, 1, -1, -44]), (7, [3, 4], [2])] ta ws vs := hf
  obtain ⟨f0, hf⟩ := fc_un (show (6 : Nat) < 100 from by decide) hf
  have f0 : v_iv (n_v vs 17) = v_iv (n_v vs 3) + 1 := f0
  obtain ⟨f1, hf⟩ := fc_un (show (23 : Nat) < 100 from by decide) hf
  have f1 : 1 * v_iv (n_v vs 16) + ((-1) * v_iv (n_v vs 1) + ((-44) * v_iv (n_v vs 3) + 0)) ≤ 42 := f1
  obtain ⟨f2, hf⟩ := fc_un (show (23 : Nat) < 100 from by decide) hf
  have f2 : 1 * v_iv (n_v vs 12) + ((-1) * v_iv (n_v vs 1) + ((-44) * v_iv (n_v vs 3) + 0)) ≤ 11 := f2
  obtain ⟨f3, hf⟩ := fc_un (show (20 : Nat) < 100 from by decide) hf
  have f3 : v_iv (n_v vs 11) = w_ei ws (w_ar ws (n_v vs 2) 2) (((w_fi ws (n_v vs 2) 5 + 315) + v_iv (n_v vs 3))) := f3
  obtain ⟨f4, hf⟩ := fc_un (show (23 : Nat) < 100 from by decide) hf
  have f4 : 1 * v_iv (n_v vs 10) + ((-1) * v_iv (n_v vs 1) + ((-44) * v_iv (n_v vs 3) + 0)) ≤ 8 := f4
  obtain ⟨f5, hf⟩ := fc_un (show (23 : Nat) < 100 from by decide) hf
  have f5 : 1 * v_iv (n_v vs 6) + ((-1) * v_iv (n_v vs 1) + ((-44) * v_iv (n_v vs 3) + 0)) ≤ 0 := f5
  obtain ⟨f6, hf⟩ := fc_un (show (20 : Nat) < 100 from by decide) hf
  have f6 : v_iv (n_v vs 5) = w_ei ws (w_ar ws (n_v vs 2) 2) (((w_fi ws (n_v vs 2) 5 + 267) + v_iv (n_v vs 3))) := f6
  obtain ⟨f7, hf⟩ := fc_un (show (20 : Nat) < 100 from by decide) hf
  have f7 : 1 * v_iv (n_v vs 4) + ((-1) * w_el ws (w_ar ws (n_v vs 2) 2) (w_fi ws (n_v vs 2) 5 + 1).toNat + 0) ≤ 0 := f7
  obtain ⟨f8, hf⟩ := fc_un (show (20 : Nat) < 100 from by decide) hf
  have f8 : (-1) * v_iv (n_v vs 4) + (1 * w_el ws (w_ar ws (n_v vs 2) 2) (w_fi ws (n_v vs 2) 5 + 1).toNat + 0) ≤ 0 := f8
  obtain ⟨f9, hf⟩ := fc_un (show (24 : Nat) < 100 from by decide) hf
  have f9 : n_v vs 0 = n_v vs 2 := f9
  obtain ⟨f10, hf⟩ := fc_un (show (20 : Nat) < 100 from by decide) hf
  have f10 : 1 * w_fi ws (n_v vs 2) 170 + ((-1) * v_iv (n_v vs 16) + 0) ≤ 2 := f10
  obtain ⟨ta1, w1, le1, ⟨_, s1⟩, hf⟩ := fc_us (show ¬ (102 : Nat) < 100 from by decide) hf
  obtain ⟨f12, hf⟩ := fc_un (show (23 : Nat) < 100 from by decide) hf
  have f12 : 1 * v_iv (n_v vs 16) + ((-1) * v_iv (n_v vs 1) + ((-44) * v_iv (n_v vs 3) + 0)) ≤ 42 := f12
  obtain ⟨f13, hf⟩ := fc_un (show (23 : Nat) < 100 from by decide) hf
  have f13 : 1 * v_iv (n_v vs 12) + ((-1) * v_iv (n_v vs 1) + ((-44) * v_iv (n_v vs 3) + 0)) ≤ 11 := f13
  obtain ⟨f14, hf⟩ := fc_un (show (23 : Nat) < 100 from by decide) hf
  have f14 : 1 * v_iv (n_v vs 10) + ((-1) * v_iv (n_v vs 1) + ((-44) * v_iv (n_v vs 3) + 0)) ≤ 8 := f14
  obtain ⟨f15, hf⟩ := fc_un (show (23 : Nat) < 100 from by decide) hf
  have f15 : 1 * v_iv (n_v vs 6) + ((-1) * v_iv (n_v vs 1) + ((-44) * v_iv (n_v vs 3) + 0)) ≤ 0 := f15
  obtain ⟨ta2, w2, le2, ⟨_, s2⟩, hf⟩ := fc_us (show ¬ (102 : Nat) < 100 from by decide) hf
  obtain ⟨f17, hf⟩ := fc_un (show (23 : Nat) < 100 from by decide) hf
  have f17 : 1 * v_iv (n_v vs 12) + ((-1) * v_iv (n_v vs 1) + ((-44) * v_iv (n_v vs 3) + 0)) ≤ 11 := f17
  obtain ⟨f18, hf⟩ := fc_un (show (23 : Nat) < 100 from by decide) hf
  have f18 : 1 * v_iv (n_v vs 10) + ((-1) * v_iv (n_v vs 1) + ((-44) * v_iv (n_v vs 3) + 0)) ≤ 8 := f18
  obtain ⟨f19, hf⟩ := fc_un (show (23 : Nat) < 100 from by decide) hf
  have f19 : 1 * v_iv (n_v vs 6) + ((-1) * v_iv (n_v vs 1) + ((-44) * v_iv (n_v vs 3) + 0)) ≤ 0 := f19
  obtain ⟨ta3, w3, le3, ⟨_, s3⟩, hf⟩ := fc_us (show ¬ (102 : Nat) < 100 from by decide) hf
  obtain ⟨f21, hf⟩ := fc_un (show (23 : Nat) < 100 from by decide) hf
  have f21 : 1 * v_iv (n_v vs 10) + ((-1) * v_iv (n_v vs 1) + ((-44) * v_iv (n_v vs 3) + 0)) ≤ 8 := f21
  obtain ⟨f22, hf⟩ := fc_un (show (23 : Nat) < 100 from by decide) hf
  have f22 : 1 * v_iv (n_v vs 6) + ((-1) * v_iv (n_v vs 1) + ((-44) * v_iv (n_v vs 3) + 0)) ≤ 0 := f22
  obtain ⟨ta4, w4, le4, ⟨_, s4⟩, hf⟩ := fc_us (show ¬ (102 : Nat) < 100 from by decide) hf
  obtain ⟨f24, hf⟩ := fc_un (show (23 : Nat) < 100 from by decide) hf
  have f24 : 1 * v_iv (n_v vs 6) + ((-1) * v_iv (n_v vs 1) + ((-44) * v_iv (n_v vs 3) + 0)) ≤ 0 := f24
  obtain ⟨f25, hf⟩ := fc_un (show (7 : Nat) < 100 from by decide) hf
  have f25 : v_iv (n_v vs 3) < v_iv (n_v vs 4) := f25
  have q2 : n_v vs 2 = n_v vs 0 := f9.symm
  rw [q2] at f3
  rw [q2] at f6
  rw [q2] at f7
  rw [q2] at f8
  rw [q2] at f10
  have cr_0_2 : ta (w_ar ws (n_v vs 0) 2) = some 152 := tv_rg (th_fd hD hth r0 (g := GG_150) rfl (k := 2) (t := (2, 0, 0, [152])) rfl rfl)
  have br_0_2_F5_1_0 : w_ei ws (w_ar ws (n_v vs 0) 2) (w_fi ws (n_v vs 0) 5 + 1) = w_el ws (w_ar ws (n_v vs 0) 2) (w_fi ws (n_v vs 0) 5 + 1).toNat := rfl
  have kz_0_170 : 0 ≤ w_fi ws (n_v vs 0) 170 ∧ w_fi ws (n_v vs 0) 170 ≤ 100000000 := tv_rng (th_fd hD hth r0 (g := GG_150) rfl (k := 170) (t := (0, 0, 100000000, [])) rfl rfl)
  have nf0 : fc_1 (20, [2, 1, 17], [30, 0, 1, 1, 170, -1, 0, 0, -44, 0, 0]) ws (vs) := by
    refine ⟨fun n hn => ?_, ?_⟩
    · have hn : n ∈ [2, 1, 17] := hn
      rw [hl]
      simp only [List.mem_cons, List.not_mem_nil, or_false] at hn
      show n < 18; omega
    · show 1 * w_fi ws (n_v vs 2) 170 + ((-1) * v_iv (n_v vs 1) + ((-44) * v_iv (n_v vs 17) + 0)) ≤ 0
      rw [q2]
      omega
  refine ⟨(fun _ h => (by cases h)), [], trivial, ?_, (fun _ h => (by cases h))⟩
  rw [List.append_nil]
  exact List.forall_mem_cons.mpr ⟨⟨show (20 : Nat) < 100 from by decide, nf0⟩, (fun _ h => (by cases h))⟩
def o_Mo_writeEdges_7 : or_T := (63, 16, [(0, (2, 0, 0, [150])), (1, (0, 0, 99997888, [])), (2, (2, 0, 0, [150])), (3, (0, 0, 47, [])), (4, (0, 1, 48, [])), (5, (0, 0, 23, [])), (6, (0, 0, 99999992, [])), (10, (0, 0, 99999997, [])), (11, (0, 0, 23, [])), (12, (0, 0, 99999992, []))], [(23, [12, 1, 3], [11, 1, -1, -44]), (20, [11, 2, 3], [50, 1, 1, 1005, 1002, 1, 2, 1, 0, 3, 1, 2, 4, 7, 4, 3, 2, 1, 5, 0, 315, 1, 2]), (23, [10, 1, 3], [8, 1, -1, -44]), (23, [6, 1, 3], [0, 1, -1, -44]), (20, [5, 2, 3], [50, 1, 1, 1005, 1002, 1, 2, 1, 0, 3, 1, 2, 4, 7, 4, 3, 2, 1, 5, 0, 267, 1, 2]), (20, [4, 2], [30, 0, 1, 0, 0, -1, 3, 2005001]), (20, [4, 2], [30, 0, -1, 0, 0, 1, 3, 2005001]), (24, [0, 2], []), (20, [2, 12], [30, 8, 1, 1, 170, -1, 0, 0]), (102, [12], [237142198758023568227473377297792835283496928595231875152809132048206089502588928, 13170]), (23, [12, 1, 3], [11, 1, -1, -44]), (23, [10, 1, 3], [8, 1, -1, -44]), (23, [6, 1, 3], [0, 1, -1, -44]), (102, [10], [237142198758023568227473377297792835283496928595231875152809132048206089502588928, 13170]), (23, [10, 1, 3], [8, 1, -1, -44]), (23, [6, 1, 3], [0, 1, -1, -44]), (102, [6], [237142198758023568227473377297792835283496928595231875152809132048206089502588928, 13170]), (23, [6, 1, 3], [0, 1, -1, -44]), (7, [3, 4], [2])], [], [(0, 0, 99999991, [])], [(20, [2, 16], [30, 0, 1, 1, 170, -1, 0, 0]), (23, [16, 1, 3], [19, 1, -1, -44])], [], [(3, 4, -4294967296, -1)])
theorem oo_Mo_writeEdges_7 {kA : Nat → ClassId} : or_ok kA GG o_Mo_writeEdges_7 := by
  intro A ta ws vs hD hth hl hk hds hf
  have hl : vs.length = 16 := hl
  have hk : ∀ q ∈ ([(0, (2, 0, 0, [150])), (1, (0, 0, 99997888, [])), (2, (2, 0, 0, [150])), (3, (0, 0, 47, [])), (4, (0, 1, 48, [])), (5, (0, 0, 23, [])), (6, (0, 0, 99999992, [])), (10, (0, 0, 99999997, [])), (11, (0, 0, 23, [])), (12, (0, 0, 99999992, []))] : List (Nat × tv_T)), tv_ok ta q.2 (n_v vs q.1) := hk
  obtain ⟨t0, hk⟩ := List.forall_mem_cons.mp hk
  have t0 : tv_ok ta (2, 0, 0, [150]) (n_v vs 0) := t0
  have r0 : ta (v_ad (n_v vs 0)) = some 150 := tv_rg t0
  obtain ⟨t1, hk⟩ := List.forall_mem_cons.mp hk
  have t1 : tv_ok ta (0, 0, 99997888, []) (n_v vs 1) := t1
  have k1 : 0 ≤ v_iv (n_v vs 1) ∧ v_iv (n_v vs 1) ≤ 99997888 := tv_rng t1
  obtain ⟨t2, hk⟩ := List.forall_mem_cons.mp hk
  have t2 : tv_ok ta (2, 0, 0, [150]) (n_v vs 2) := t2
  have r2 : ta (v_ad (n_v vs 2)) = some 150 := tv_rg t2
  obtain ⟨t3, hk⟩ := List.forall_mem_cons.mp hk
  have t3 : tv_ok ta (0, 0, 47, []) (n_v vs 3) := t3
  have k3 : 0 ≤ v_iv (n_v vs 3) ∧ v_iv (n_v vs 3) ≤ 47 := tv_rng t3
  obtain ⟨t4, hk⟩ := List.forall_mem_cons.mp hk
  have t4 : tv_ok ta (0, 1, 48, []) (n_v vs 4) := t4
  have k4 : 1 ≤ v_iv (n_v vs 4) ∧ v_iv (n_v vs 4) ≤ 48 := tv_rng t4
  obtain ⟨t5, hk⟩ := List.forall_mem_cons.mp hk
  have t5 : tv_ok ta (0, 0, 23, []) (n_v vs 5) := t5
  have k5 : 0 ≤ v_iv (n_v vs 5) ∧ v_iv (n_v vs 5) ≤ 23 := tv_rng t5
  obtain ⟨t6, hk⟩ := List.forall_mem_cons.mp hk
  have t6 : tv_ok ta (0, 0, 99999992, []) (n_v vs 6) := t6
  have k6 : 0 ≤ v_iv (n_v vs 6) ∧ v_iv (n_v vs 6) ≤ 99999992 := tv_rng t6
  obtain ⟨t10, hk⟩ := List.forall_mem_cons.mp hk
  have t10 : tv_ok ta (0, 0, 99999997, []) (n_v vs 10) := t10
  have k10 : 0 ≤ v_iv (n_v vs 10) ∧ v_iv (n_v vs 10) ≤ 99999997 := tv_rng t10
  obtain ⟨t11, hk⟩ := List.forall_mem_cons.mp hk
  have t11 : tv_ok ta (0, 0, 23, []) (n_v vs 11) := t11
  have k11 : 0 ≤ v_iv (n_v vs 11) ∧ v_iv (n_v vs 11) ≤ 23 := tv_rng t11
  obtain ⟨t12, hk⟩ := List.forall_mem_cons.mp hk
  have t12 : tv_ok ta (0, 0, 99999992, []) (n_v vs 12) := t12
  have k12 : 0 ≤ v_iv (n_v vs 12) ∧ v_iv (n_v vs 12) ≤ 99999992 := tv_rng t12
  have hds : ∀ q ∈ ([(3, 4, -4294967296, -1)] : List of_T), n_iv vs q.2.1 + q.2.2.1 ≤ n_iv vs q.1 ∧ n_iv vs q.1 ≤ n_iv vs q.2.1 + q.2.2.2 := hds
  obtain ⟨d0, hds⟩ := List.forall_mem_cons.mp hds
  have d0 : v_iv (n_v vs 4) + (-4294967296) ≤ v_iv (n_v vs 3) ∧ v_iv (n_v vs 3) ≤ v_iv (n_v vs 4) + (-1) := d0
  have hf : fc_ok [(23, [12, 1, 3], [11, 1, -1, -44]), (20, [11, 2, 3], [50, 1, 1, 1005, 1002, 1, 2, 1, 0, 3, 1, 2, 4, 7, 4, 3, 2, 1, 5, 0, 315, 1, 2]), (23, [10, 1, 3], [8, 1, -1, -44]), (23, [6, 1, 3], [0, 1, -1, -44]), (20, [5, 2, 3], [50, 1, 1, 1005, 1002, 1, 2, 1, 0, 3, 1, 2, 4, 7, 4, 3, 2, 1, 5, 0, 267, 1, 2]), (20, [4, 2], [30, 0, 1, 0, 0, -1, 3, 2005001]), (20, [4, 2], [30, 0, -1, 0, 0, 1, 3, 2005001]), (24, [0, 2], []), (20, [2, 12], [30, 8, 1, 1, 170, -1, 0, 0]), (102, [12], [237142198758023568227473377297792835283496928595231875152809132048206089502588928, 13170]), (23, [12, 1, 3], [11, 1, -1, -44]), (23, [10, 1, 3], [8, 1, -1, -44]), (23, [6, 1, 3], [0, 1, -1, -44]), (102, [10], [237142198758023568227473377297792835283496928595231875152809132048206089502588928, 13170]), (23, [10, 1, 3], [8, 1, -1, -44]), (23, [6, 1, 3], [0, 1, -1, -44]), (102, [6], [237142198758023568227473377297792835283496928595231875152809132048206089502588928, 13170]), (23, [6, 1, 3], [0, 1, -1, -44]), (7, [3, 4], [2])] ta ws vs := hf
  obtain ⟨f0, hf⟩ := fc_un (show (23 : Nat) < 100 from by decide) hf
  have f0 : 1 * v_iv (n_v vs 12) + ((-1) * v_iv (n_v vs 1) + ((-44) * v_iv (n_v vs 3) + 0)) ≤ 11 := f0
  obtain ⟨f1, hf⟩ := fc_un (show (20 : Nat) < 100 from by decide) hf
  have f1 : v_iv (n_v vs 11) = w_ei ws (w_ar ws (n_v vs 2) 2) (((w_fi ws (n_v vs 2) 5 + 315) + v_iv (n_v vs 3))) := f1
  obtain ⟨f2, hf⟩ := fc_un (show (23 : Nat) < 100 from by decide) hf
  have f2 : 1 * v_iv (n_v vs 10) + ((-1) * v_iv (n_v vs 1) + ((-44) * v_iv (n_v vs 3) + 0)) ≤ 8 := f2
  obtain ⟨f3, hf⟩ := fc_un (show (23 : Nat) < 100 from by decide) hf
  have f3 : 1 * v_iv (n_v vs 6) + ((-1) * v_iv (n_v vs 1) + ((-44) * v_iv (n_v vs 3) + 0)) ≤ 0 := f3
  obtain ⟨f4, hf⟩ := fc_un (show (20 : Nat) < 100 from by decide) hf
  have f4 : v_iv (n_v vs 5) = w_ei ws (w_ar ws (n_v vs 2) 2) (((w_fi ws (n_v vs 2) 5 + 267) + v_iv (n_v vs 3))) := f4
  obtain ⟨f5, hf⟩ := fc_un (show (20 : Nat) < 100 from by decide) hf
  have f5 : 1 * v_iv (n_v vs 4) + ((-1) * w_el ws (w_ar ws (n_v vs 2) 2) (w_fi ws (n_v vs 2) 5 + 1).toNat + 0) ≤ 0 := f5
  obtain ⟨f6, hf⟩ := fc_un (show (20 : Nat) < 100 from by decide) hf
  have f6 : (-1) * v_iv (n_v vs 4) + (1 * w_el ws (w_ar ws (n_v vs 2) 2) (w_fi ws (n_v vs 2) 5 + 1).toNat + 0) ≤ 0 := f6
  obtain ⟨f7, hf⟩ := fc_un (show (24 : Nat) < 100 from by decide) hf
  have f7 : n_v vs 0 = n_v vs 2 := f7
  obtain ⟨f8, hf⟩ := fc_un (show (20 : Nat) < 100 from by decide) hf
  have f8 : 1 * w_fi ws (n_v vs 2) 170 + ((-1) * v_iv (n_v vs 12) + 0) ≤ 8 := f8
  obtain ⟨ta1, w1, le1, ⟨_, s1⟩, hf⟩ := fc_us (show ¬ (102 : Nat) < 100 from by decide) hf
  obtain ⟨f10, hf⟩ := fc_un (show (23 : Nat) < 100 from by decide) hf
  have f10 : 1 * v_iv (n_v vs 12) + ((-1) * v_iv (n_v vs 1) + ((-44) * v_iv (n_v vs 3) + 0)) ≤ 11 := f10
  obtain ⟨f11, hf⟩ := fc_un (show (23 : Nat) < 100 from by decide) hf
  have f11 : 1 * v_iv (n_v vs 10) + ((-1) * v_iv (n_v vs 1) + ((-44) * v_iv (n_v vs 3) + 0)) ≤ 8 := f11
  obtain ⟨f12, hf⟩ := fc_un (show (23 : Nat) < 100 from by decide) hf
  have f12 : 1 * v_iv (n_v vs 6) + ((-1) * v_iv (n_v vs 1) + ((-44) * v_iv (n_v vs 3) + 0)) ≤ 0 := f12
  obtain ⟨ta2, w2, le2, ⟨_, s2⟩, hf⟩ := fc_us (show ¬ (102 : Nat) < 100 from by decide) hf
  obtain ⟨f14, hf⟩ := fc_un (show (23 : Nat) < 100 from by decide) hf
  have f14 : 1 * v_iv (n_v vs 10) + ((-1) * v_iv (n_v vs 1) + ((-44) * v_iv (n_v vs 3) + 0)) ≤ 8 := f14
  obtain ⟨f15, hf⟩ := fc_un (show (23 : Nat) < 100 from by decide) hf
  have f15 : 1 * v_iv (n_v vs 6) + ((-1) * v_iv (n_v vs 1) + ((-44) * v_iv (n_v vs 3) + 0)) ≤ 0 := f15
  obtain ⟨ta3, w3, le3, ⟨_, s3⟩, hf⟩ := fc_us (show ¬ (102 : Nat) < 100 from by decide) hf
  obtain ⟨f17, hf⟩ := fc_un (show (23 : Nat) < 100 from by decide) hf
  have f17 : 1 * v_iv (n_v vs 6) + ((-1) * v_iv (n_v vs 1) + ((-44) * v_iv (n_v vs 3) + 0)) ≤ 0 := f17
  obtain ⟨f18, hf⟩ := fc_un (show (7 : Nat) < 100 from by decide) hf
  have f18 : v_iv (n_v vs 3) < v_iv (n_v vs 4) := f18
  have q2 : n_v vs 2 = n_v vs 0 := f7.symm
  rw [q2] at f1
  rw [q2] at f4
  rw [q2] at f5
  rw [q2] at f6
  rw [q2] at f8
  have cr_0_2 : ta (w_ar ws (n_v vs 0) 2) = some 152 := tv_rg (th_fd hD hth r0 (g := GG_150) rfl (k := 2) (t := (2, 0, 0, [152])) rfl rfl)
  have br_0_2_F5_1_0 : w_ei ws (w_ar ws (n_v vs 0) 2) (w_fi ws (n_v vs 0) 5 + 1) = w_el ws (w_ar ws (n_v vs 0) 2) (w_fi ws (n_v vs 0) 5 + 1).toNat := rfl
  have kz_0_170 : 0 ≤ w_fi ws (n_v vs 0) 170 ∧ w_fi ws (n_v vs 0) 170 ≤ 100000000 := tv_rng (th_fd hD hth r0 (g := GG_150) rfl (k := 170) (t := (0, 0, 100000000, [])) rfl rfl)
  have kv0 : 0 ≤ w_fi ws (n_v vs 0) 170 ∧ w_fi ws (n_v vs 0) 170 ≤ 100000000 := tv_rng (th_fd hD hth r0 (g := GG_150) rfl (k := 170) (t := (0, 0, 100000000, [])) rfl rfl)
  obtain ⟨x, ex, hx⟩ := iv_ex (ta := ta) (lo := 0) (hi := 99999991) (z := w_fi ws (n_v vs 0) 170) (by omega) (by omega) (by omega) (by omega)
  have ex2 : v_iv (Value.int x) = w_fi ws (n_v vs 0) 170 := ex
  have ex3 : 0 ≤ v_iv (Value.int x) ∧ v_iv (Value.int x) ≤ 99999991 := tv_rng hx
  have e_1 : n_v (vs ++ [Value.int x]) 1 = n_v vs 1 := n_v_old (by rw [hl]; decide)
  have e_2 : n_v (vs ++ [Value.int x]) 2 = n_v vs 2 := n_v_old (by rw [hl]; decide)
  have e_3 : n_v (vs ++ [Value.int x]) 3 = n_v vs 3 := n_v_old (by rw [hl]; decide)
  have e_16 : n_v (vs ++ [Value.int x]) 16 = Value.int x := n_v_new hl
  have nf0 : fc_1 (20, [2, 16], [30, 0, 1, 1, 170, -1, 0, 0]) ws (vs ++ [Value.int x]) := by
    refine ⟨fun n hn => ?_, ?_⟩
    · have hn : n ∈ [2, 16] := hn
      rw [List.length_append, hl]
      simp only [List.mem_cons, List.not_mem_nil, or_false] at hn
      show n < 16 + 1; omega
    · show 1 * w_fi ws (n_v (vs ++ [Value.int x]) 2) 170 + ((-1) * v_iv (n_v (vs ++ [Value.int x]) 16) + 0) ≤ 0
      rw [e_2]
      rw [e_16]
      rw [q2]
      omega
  have nf1 : fc_1 (23, [16, 1, 3], [19, 1, -1, -44]) ws (vs ++ [Value.int x]) := by
    refine ⟨fun n hn => ?_, ?_⟩
    · have hn : n ∈ [16, 1, 3] := hn
      rw [List.length_append, hl]
      simp only [List.mem_cons, List.not_mem_nil, or_false] at hn
      show n < 16 + 1; omega
    · show 1 * v_iv (n_v (vs ++ [Value.int x]) 16) + ((-1) * v_iv (n_v (vs ++ [Value.int x]) 1) + ((-44) * v_iv (n_v (vs ++ [Value.int x]) 3) + 0)) ≤ 19
      rw [e_1]
      rw [e_3]
      rw [e_16]
      omega
  exact ⟨(fun _ h => (by cases h)), [Value.int x], ag_one hx, List.forall_mem_cons.mpr ⟨⟨show (20 : Nat) < 100 from by decide, nf0⟩, List.forall_mem_cons.mpr ⟨⟨show (23 : Nat) < 100 from by decide, nf1⟩, (fun _ h => (by cases h))⟩⟩, (fun _ h => (by cases h))⟩
def o_Mo_writeEdges_8 : or_T := (72, 18, [(0, (2, 0, 0, [150])), (1, (0, 0, 99997888, [])), (2, (2, 0, 0, [150])), (3, (0, 0, 47, [])), (4, (0, 1, 48, [])), (5, (0, 0, 23, [])), (6, (0, 0, 99999992, [])), (10, (0, 0, 99999997, [])), (11, (0, 0, 23, [])), (12, (0, 0, 99999992, [])), (16, (0, 0, 99999991, []))], [(23, [16, 1, 3], [19, 1, -1, -44]), (23, [12, 1, 3], [11, 1, -1, -44]), (20, [11, 2, 3], [50, 1, 1, 1005, 1002, 1, 2, 1, 0, 3, 1, 2, 4, 7, 4, 3, 2, 1, 5, 0, 315, 1, 2]), (23, [10, 1, 3], [8, 1, -1, -44]), (23, [6, 1, 3], [0, 1, -1, -44]), (20, [5, 2, 3], [50, 1, 1, 1005, 1002, 1, 2, 1, 0, 3, 1, 2, 4, 7, 4, 3, 2, 1, 5, 0, 267, 1, 2]), (20, [4, 2], [30, 0, 1, 0, 0, -1, 3, 2005001]), (20, [4, 2], [30, 0, -1, 0, 0, 1, 3, 2005001]), (24, [0, 2], []), (20, [2, 16], [30, 9, 1, 1, 170, -1, 0, 0]), (102, [16], [237142198758023568227473377297792835283496928595231875152809132048206089502588928, 13170]), (23, [16, 1, 3], [19, 1, -1, -44]), (23, [12, 1, 3], [11, 1, -1, -44]), (23, [10, 1, 3], [8, 1, -1, -44]), (23, [6, 1, 3], [0, 1, -1, -44]), (102, [12], [237142198758023568227473377297792835283496928595231875152809132048206089502588928, 13170]), (23, [12, 1, 3], [11, 1, -1, -44]), (23, [10, 1, 3], [8, 1, -1, -44]), (23, [6, 1, 3], [0, 1, -1, -44]), (102, [10], [237142198758023568227473377297792835283496928595231875152809132048206089502588928, 13170]), (23, [10, 1, 3], [8, 1, -1, -44]), (23, [6, 1, 3], [0, 1, -1, -44]), (102, [6], [237142198758023568227473377297792835283496928595231875152809132048206089502588928, 13170]), (23, [6, 1, 3], [0, 1, -1, -44]), (7, [3, 4], [2])], [], [(0, 0, 99999987, [])], [(20, [2, 18], [30, 0, 1, 1, 170, -1, 0, 0]), (23, [18, 1, 3], [28, 1, -1, -44])], [], [(3, 4, -4294967296, -1)])
theorem oo_Mo_writeEdges_8 {kA : Nat → ClassId} : or_ok kA GG o_Mo_writeEdges_8 := by
  intro A ta ws vs hD hth hl hk hds hf
  have hl : vs.length = 18 := hl
  have hk : ∀ q ∈ ([(0, (2, 0, 0, [150])), (1, (0, 0, 99997888, [])), (2, (2, 0, 0, [150])), (3, (0, 0, 47, [])), (4, (0, 1, 48, [])), (5, (0, 0, 23, [])), (6, (0, 0, 99999992, [])), (10, (0, 0, 99999997, [])), (11, (0, 0, 23, [])), (12, (0, 0, 99999992, [])), (16, (0, 0, 99999991, []))] : List (Nat × tv_T)), tv_ok ta q.2 (n_v vs q.1) := hk
  obtain ⟨t0, hk⟩ := List.forall_mem_cons.mp hk
  have t0 : tv_ok ta (2, 0, 0, [150]) (n_v vs 0) := t0
  have r0 : ta (v_ad (n_v vs 0)) = some 150 := tv_rg t0
  obtain ⟨t1, hk⟩ := List.forall_mem_cons.mp hk
  have t1 : tv_ok ta (0, 0, 99997888, []) (n_v vs 1) := t1
  have k1 : 0 ≤ v_iv (n_v vs 1) ∧ v_iv (n_v vs 1) ≤ 99997888 := tv_rng t1
  obtain ⟨t2, hk⟩ := List.forall_mem_cons.mp hk
  have t2 : tv_ok ta (2, 0, 0, [150]) (n_v vs 2) := t2
  have r2 : ta (v_ad (n_v vs 2)) = some 150 := tv_rg t2
  obtain ⟨t3, hk⟩ := List.forall_mem_cons.mp hk
  have t3 : tv_ok ta (0, 0, 47, []) (n_v vs 3) := t3
  have k3 : 0 ≤ v_iv (n_v vs 3) ∧ v_iv (n_v vs 3) ≤ 47 := tv_rng t3
  obtain ⟨t4, hk⟩ := List.forall_mem_cons.mp hk
  have t4 : tv_ok ta (0, 1, 48, []) (n_v vs 4) := t4
  have k4 : 1 ≤ v_iv (n_v vs 4) ∧ v_iv (n_v vs 4) ≤ 48 := tv_rng t4
  obtain ⟨t5, hk⟩ := List.forall_mem_cons.mp hk
  have t5 : tv_ok ta (0, 0, 23, []) (n_v vs 5) := t5
  have k5 : 0 ≤ v_iv (n_v vs 5) ∧ v_iv (n_v vs 5) ≤ 23 := tv_rng t5
  obtain ⟨t6, hk⟩ := List.forall_mem_cons.mp hk
  have t6 : tv_ok ta (0, 0, 99999992, []) (n_v vs 6) := t6
  have k6 : 0 ≤ v_iv (n_v vs 6) ∧ v_iv (n_v vs 6) ≤ 99999992 := tv_rng t6
  obtain ⟨t10, hk⟩ := List.forall_mem_cons.mp hk
  have t10 : tv_ok ta (0, 0, 99999997, []) (n_v vs 10) := t10
  have k10 : 0 ≤ v_iv (n_v vs 10) ∧ v_iv (n_v vs 10) ≤ 99999997 := tv_rng t10
  obtain ⟨t11, hk⟩ := List.forall_mem_cons.mp hk
  have t11 : tv_ok ta (0, 0, 23, []) (n_v vs 11) := t11
  have k11 : 0 ≤ v_iv (n_v vs 11) ∧ v_iv (n_v vs 11) ≤ 23 := tv_rng t11
  obtain ⟨t12, hk⟩ := List.forall_mem_cons.mp hk
  have t12 : tv_ok ta (0, 0, 99999992, []) (n_v vs 12) := t12
  have k12 : 0 ≤ v_iv (n_v vs 12) ∧ v_iv (n_v vs 12) ≤ 99999992 := tv_rng t12
  obtain ⟨t16, hk⟩ := List.forall_mem_cons.mp hk
  have t16 : tv_ok ta (0, 0, 99999991, []) (n_v vs 16) := t16
  have k16 : 0 ≤ v_iv (n_v vs 16) ∧ v_iv (n_v vs 16) ≤ 99999991 := tv_rng t16
  have hds : ∀ q ∈ ([(3, 4, -4294967296, -1)] : List of_T), n_iv vs q.2.1 + q.2.2.1 ≤ n_iv vs q.1 ∧ n_iv vs q.1 ≤ n_iv vs q.2.1 + q.2.2.2 := hds
  obtain ⟨d0, hds⟩ := List.forall_mem_cons.mp hds
  have d0 : v_iv (n_v vs 4) + (-4294967296) ≤ v_iv (n_v vs 3) ∧ v_iv (n_v vs 3) ≤ v_iv (n_v vs 4) + (-1) := d0
  have hf : fc_ok [(23, [16, 1, 3], [19, 1, -1, -44]), (23, [12, 1, 3], [11, 1, -1, -44]), (20, [11, 2, 3], [50, 1, 1, 1005, 1002, 1, 2, 1, 0, 3, 1, 2, 4, 7, 4, 3, 2, 1, 5, 0, 315, 1, 2]), (23, [10, 1, 3], [8, 1, -1, -44]), (23, [6, 1, 3], [0, 1, -1, -44]), (20, [5, 2, 3], [50, 1, 1, 1005, 1002, 1, 2, 1, 0, 3, 1, 2, 4, 7, 4, 3, 2, 1, 5, 0, 267, 1, 2]), (20, [4, 2], [30, 0, 1, 0, 0, -1, 3, 2005001]), (20, [4, 2], [30, 0, -1, 0, 0, 1, 3, 2005001]), (24, [0, 2], []), (20, [2, 16], [30, 9, 1, 1, 170, -1, 0, 0]), (102, [16], [237142198758023568227473377297792835283496928595231875152809132048206089502588928, 13170]), (23, [16, 1, 3], [19, 1, -1, -44]), (23, [12, 1, 3], [11, 1, -1, -44]), (23, [10, 1, 3], [8, 1, -1, -44]), (23, [6, 1, 3], [0, 1, -1, -44]), (102, [12], [237142198758023568227473377297792835283496928595231875152809132048206089502588928, 13170]), (23, [12, 1, 3], [11, 1, -1, -44]), (23, [10, 1, 3], [8, 1, -1, -44]), (23, [6, 1, 3], [0, 1, -1, -44]), (102, [10], [237142198758023568227473377297792835283496928595231875152809132048206089502588928, 13170]), (23, [10, 1, 3], [8, 1, -1, -44]), (23, [6, 1, 3], [0, 1, -1, -44]), (102, [6], [237142198758023568227473377297792835283496928595231875152809132048206089502588928, 13170]), (23, [6, 1, 3], [0, 1, -1, -44]), (7, [3, 4], [2])] ta ws vs := hf
  obtain ⟨f0, hf⟩ := fc_un (show (23 : Nat) < 100 from by decide) hf
  have f0 : 1 * v_iv (n_v vs 16) + ((-1) * v_iv (n_v vs 1) + ((-44) * v_iv (n_v vs 3) + 0)) ≤ 19 := f0
  obtain ⟨f1, hf⟩ := fc_un (show (23 : Nat) < 100 from by decide) hf
  have f1 : 1 * v_iv (n_v vs 12) + ((-1) * v_iv (n_v vs 1) + ((-44) * v_iv (n_v vs 3) + 0)) ≤ 11 := f1
  obtain ⟨f2, hf⟩ := fc_un (show (20 : Nat) < 100 from by decide) hf
  have f2 : v_iv (n_v vs 11) = w_ei ws (w_ar ws (n_v vs 2) 2) (((w_fi ws (n_v vs 2) 5 + 315) + v_iv (n_v vs 3))) := f2
  obtain ⟨f3, hf⟩ := fc_un (show (23 : Nat) < 100 from by decide) hf
  have f3 : 1 * v_iv (n_v vs 10) + ((-1) * v_iv (n_v vs 1) + ((-44) * v_iv (n_v vs 3) + 0)) ≤ 8 := f3
  obtain ⟨f4, hf⟩ := fc_un (show (23 : Nat) < 100 from by decide) hf
  have f4 : 1 * v_iv (n_v vs 6) + ((-1) * v_iv (n_v vs 1) + ((-44) * v_iv (n_v vs 3) + 0)) ≤ 0 := f4
  obtain ⟨f5, hf⟩ := fc_un (show (20 : Nat) < 100 from by decide) hf
  have f5 : v_iv (n_v vs 5) = w_ei ws (w_ar ws (n_v vs 2) 2) (((w_fi ws (n_v vs 2) 5 + 267) + v_iv (n_v vs 3))) := f5
  obtain ⟨f6, hf⟩ := fc_un (show (20 : Nat) < 100 from by decide) hf
  have f6 : 1 * v_iv (n_v vs 4) + ((-1) * w_el ws (w_ar ws (n_v vs 2) 2) (w_fi ws (n_v vs 2) 5 + 1).toNat + 0) ≤ 0 := f6
  obtain ⟨f7, hf⟩ := fc_un (show (20 : Nat) < 100 from by decide) hf
  have f7 : (-1) * v_iv (n_v vs 4) + (1 * w_el ws (w_ar ws (n_v vs 2) 2) (w_fi ws (n_v vs 2) 5 + 1).toNat + 0) ≤ 0 := f7
  obtain ⟨f8, hf⟩ := fc_un (show (24 : Nat) < 100 from by decide) hf
  have f8 : n_v vs 0 = n_v vs 2 := f8
  obtain ⟨f9, hf⟩ := fc_un (show (20 : Nat) < 100 from by decide) hf
  have f9 : 1 * w_fi ws (n_v vs 2) 170 + ((-1) * v_iv (n_v vs 16) + 0) ≤ 9 := f9
  obtain ⟨ta1, w1, le1, ⟨_, s1⟩, hf⟩ := fc_us (show ¬ (102 : Nat) < 100 from by decide) hf
  obtain ⟨f11, hf⟩ := fc_un (show (23 : Nat) < 100 from by decide) hf
  have f11 : 1 * v_iv (n_v vs 16) + ((-1) * v_iv (n_v vs 1) + ((-44) * v_iv (n_v vs 3) + 0)) ≤ 19 := f11
  obtain ⟨f12, hf⟩ := fc_un (show (23 : Nat) < 100 from by decide) hf
  have f12 : 1 * v_iv (n_v vs 12) + ((-1) * v_iv (n_v vs 1) + ((-44) * v_iv (n_v vs 3) + 0)) ≤ 11 := f12
  obtain ⟨f13, hf⟩ := fc_un (show (23 : Nat) < 100 from by decide) hf
  have f13 : 1 * v_iv (n_v vs 10) + ((-1) * v_iv (n_v vs 1) + ((-44) * v_iv (n_v vs 3) + 0)) ≤ 8 := f13
  obtain ⟨f14, hf⟩ := fc_un (show (23 : Nat) < 100 from by decide) hf
  have f14 : 1 * v_iv (n_v vs 6) + ((-1) * v_iv (n_v vs 1) + ((-44) * v_iv (n_v vs 3) + 0)) ≤ 0 := f14
  obtain ⟨ta2, w2, le2, ⟨_, s2⟩, hf⟩ := fc_us (show ¬ (102 : Nat) < 100 from by decide) hf
  obtain ⟨f16, hf⟩ := fc_un (show (23 : Nat) < 100 from by decide) hf
  have f16 : 1 * v_iv (n_v vs 12) + ((-1) * v_iv (n_v vs 1) + ((-44) * v_iv (n_v vs 3) + 0)) ≤ 11 := f16
  obtain ⟨f17, hf⟩ := fc_un (show (23 : Nat) < 100 from by decide) hf
  have f17 : 1 * v_iv (n_v vs 10) + ((-1) * v_iv (n_v vs 1) + ((-44) * v_iv (n_v vs 3) + 0)) ≤ 8 := f17
  obtain ⟨f18, hf⟩ := fc_un (show (23 : Nat) < 100 from by decide) hf
  have f18 : 1 * v_iv (n_v vs 6) + ((-1) * v_iv (n_v vs 1) + ((-44) * v_iv (n_v vs 3) + 0)) ≤ 0 := f18
  obtain ⟨ta3, w3, le3, ⟨_, s3⟩, hf⟩ := fc_us (show ¬ (102 : Nat) < 100 from by decide) hf
  obtain ⟨f20, hf⟩ := fc_un (show (23 : Nat) < 100 from by decide) hf
  have f20 : 1 * v_iv (n_v vs 10) + ((-1) * v_iv (n_v vs 1) + ((-44) * v_iv (n_v vs 3) + 0)) ≤ 8 := f20
  obtain ⟨f21, hf⟩ := fc_un (show (23 : Nat) < 100 from by decide) hf
  have f21 : 1 * v_iv (n_v vs 6) + ((-1) * v_iv (n_v vs 1) + ((-44) * v_iv (n_v vs 3) + 0)) ≤ 0 := f21
  obtain ⟨ta4, w4, le4, ⟨_, s4⟩, hf⟩ := fc_us (show ¬ (102 : Nat) < 100 from by decide) hf
  obtain ⟨f23, hf⟩ := fc_un (show (23 : Nat) < 100 from by decide) hf
  have f23 : 1 * v_iv (n_v vs 6) + ((-1) * v_iv (n_v vs 1) + ((-44) * v_iv (n_v vs 3) + 0)) ≤ 0 := f23
  obtain ⟨f24, hf⟩ := fc_un (show (7 : Nat) < 100 from by decide) hf
  have f24 : v_iv (n_v vs 3) < v_iv (n_v vs 4) := f24
  have q2 : n_v vs 2 = n_v vs 0 := f8.symm
  rw [q2] at f2
  rw [q2] at f5
  rw [q2] at f6
  rw [q2] at f7
  rw [q2] at f9
  have cr_0_2 : ta (w_ar ws (n_v vs 0) 2) = some 152 := tv_rg (th_fd hD hth r0 (g := GG_150) rfl (k := 2) (t := (2, 0, 0, [152])) rfl rfl)
  have br_0_2_F5_1_0 : w_ei ws (w_ar ws (n_v vs 0) 2) (w_fi ws (n_v vs 0) 5 + 1) = w_el ws (w_ar ws (n_v vs 0) 2) (w_fi ws (n_v vs 0) 5 + 1).toNat := rfl
  have kz_0_170 : 0 ≤ w_fi ws (n_v vs 0) 170 ∧ w_fi ws (n_v vs 0) 170 ≤ 100000000 := tv_rng (th_fd hD hth r0 (g := GG_150) rfl (k := 170) (t := (0, 0, 100000000, [])) rfl rfl)
  have kv0 : 0 ≤ w_fi ws (n_v vs 0) 170 ∧ w_fi ws (n_v vs 0) 170 ≤ 100000000 := tv_rng (th_fd hD hth r0 (g := GG_150) rfl (k := 170) (t := (0, 0, 100000000, [])) rfl rfl)
  obtain ⟨x, ex, hx⟩ := iv_ex (ta := ta) (lo := 0) (hi := 99999987) (z := w_fi ws (n_v vs 0) 170) (by omega) (by omega) (by omega) (by omega)
  have ex2 : v_iv (Value.int x) = w_fi ws (n_v vs 0) 170 := ex
  have ex3 : 0 ≤ v_iv (Value.int x) ∧ v_iv (Value.int x) ≤ 99999987 := tv_rng hx
  have e_1 : n_v (vs ++ [Value.int x]) 1 = n_v vs 1 := n_v_old (by rw [hl]; decide)
  have e_2 : n_v (vs ++ [Value.int x]) 2 = n_v vs 2 := n_v_old (by rw [hl]; decide)
  have e_3 : n_v (vs ++ [Value.int x]) 3 = n_v vs 3 := n_v_old (by rw [hl]; decide)
  have e_18 : n_v (vs ++ [Value.int x]) 18 = Value.int x := n_v_new hl
  have nf0 : fc_1 (20, [2, 18], [30, 0, 1, 1, 170, -1, 0, 0]) ws (vs ++ [Value.int x]) := by
    refine ⟨fun n hn => ?_, ?_⟩
    · have hn : n ∈ [2, 18] := hn
      rw [List.length_append, hl]
      simp only [List.mem_cons, List.not_mem_nil, or_false] at hn
      show n < 18 + 1; omega
    · show 1 * w_fi ws (n_v (vs ++ [Value.int x]) 2) 170 + ((-1) * v_iv (n_v (vs ++ [Value.int x]) 18) + 0) ≤ 0
      rw [e_2]
      rw [e_18]
      rw [q2]
      omega
  have nf1 : fc_1 (23, [18, 1, 3], [28, 1, -1, -44]) ws (vs ++ [Value.int x]) := by
    refine ⟨fun n hn => ?_, ?_⟩
    · have hn : n ∈ [18, 1, 3] := hn
      rw [List.length_append, hl]
      simp only [List.mem_cons, List.not_mem_nil, or_false] at hn
      show n < 18 + 1; omega
    · show 1 * v_iv (n_v (vs ++ [Value.int x]) 18) + ((-1) * v_iv (n_v (vs ++ [Value.int x]) 1) + ((-44) * v_iv (n_v (vs ++ [Value.int x]) 3) + 0)) ≤ 28
      rw [e_1]
      rw [e_3]
      rw [e_18]
      omega
  exact ⟨(fun _ h => (by cases h)), [Value.int x], ag_one hx, List.forall_mem_cons.mpr ⟨⟨show (20 : Nat) < 100 from by decide, nf0⟩, List.forall_mem_cons.mpr ⟨⟨show (23 : Nat) < 100 from by decide, nf1⟩, (fun _ h => (by cases h))⟩⟩, (fun _ h => (by cases h))⟩
def o_Mo_writeEdges_9 : or_T := (79, 20, [(0, (2, 0, 0, [150])), (1, (0, 0, 99997888, [])), (2, (2, 0, 0, [150])), (3, (0, 0, 47, [])), (4, (0, 1, 48, [])), (5, (0, 0, 23, [])), (6, (0, 0, 99999992, [])), (10, (0, 0, 99999997, [])), (11, (0, 0, 23, [])), (12, (0, 0, 99999992, [])), (16, (0, 0, 99999991, [])), (18, (0, 0, 99999987, []))], [(23, [18, 1, 3], [28, 1, -1, -44]), (23, [16, 1, 3], [19, 1, -1, -44]), (23, [12, 1, 3], [11, 1, -1, -44]), (20, [11, 2, 3], [50, 1, 1, 1005, 1002, 1, 2, 1, 0, 3, 1, 2, 4, 7, 4, 3, 2, 1, 5, 0, 315, 1, 2]), (23, [10, 1, 3], [8, 1, -1, -44]), (23, [6, 1, 3], [0, 1, -1, -44]), (20, [5, 2, 3], [50, 1, 1, 1005, 1002, 1, 2, 1, 0, 3, 1, 2, 4, 7, 4, 3, 2, 1, 5, 0, 267, 1, 2]), (20, [4, 2], [30, 0, 1, 0, 0, -1, 3, 2005001]), (20, [4, 2], [30, 0, -1, 0, 0, 1, 3, 2005001]), (24, [0, 2], []), (20, [2, 18], [30, 13, 1, 1, 170, -1, 0, 0]), (102, [18], [237142198758023568227473377297792835283496928595231875152809132048206089502588928, 13170]), (23, [18, 1, 3], [28, 1, -1, -44]), (23, [16, 1, 3], [19, 1, -1, -44]), (23, [12, 1, 3], [11, 1, -1, -44]), (23, [10, 1, 3], [8, 1, -1, -44]), (23, [6, 1, 3], [0, 1, -1, -44]), (102, [16], [237142198758023568227473377297792835283496928595231875152809132048206089502588928, 13170]), (23, [16, 1, 3], [19, 1, -1, -44]), (23, [12, 1, 3], [11, 1, -1, -44]), (23, [10, 1, 3], [8, 1, -1, -44]), (23, [6, 1, 3], [0, 1, -1, -44]), (102, [12], [237142198758023568227473377297792835283496928595231875152809132048206089502588928, 13170]), (23, [12, 1, 3], [11, 1, -1, -44]), (23, [10, 1, 3], [8, 1, -1, -44]), (23, [6, 1, 3], [0, 1, -1, -44]), (102, [10], [237142198758023568227473377297792835283496928595231875152809132048206089502588928, 13170]), (23, [10, 1, 3], [8, 1, -1, -44]), (23, [6, 1, 3], [0, 1, -1, -44]), (102, [6], [237142198758023568227473377297792835283496928595231875152809132048206089502588928, 13170]), (23, [6, 1, 3], [0, 1, -1, -44]), (7, [3, 4], [2])], [], [(0, 0, 99999999, [])], [(20, [2, 20], [30, 0, 1, 1, 170, -1, 0, 0]), (23, [20, 1, 3], [41, 1, -1, -44])], [], [(3, 4, -4294967296, -1)])
theorem oo_Mo_writeEdges_9 {kA : Nat → ClassId} : or_ok kA GG o_Mo_writeEdges_9 := by
  intro A ta ws vs hD hth hl hk hds hf
  have hl : vs.length = 20 := hl
  have hk : ∀ q ∈ ([(0, (2, 0, 0, [150])), (1, (0, 0, 99997888, [])), (2, (2, 0, 0, [150])), (3, (0, 0, 47, [])), (4, (0, 1, 48, [])), (5, (0, 0, 23, [])), (6, (0, 0, 99999992, [])), (10, (0, 0, 99999997, [])), (11, (0, 0, 23, [])), (12, (0, 0, 99999992, [])), (16, (0, 0, 99999991, [])), (18, (0, 0, 99999987, []))] : List (Nat × tv_T)), tv_ok ta q.2 (n_v vs q.1) := hk
  obtain ⟨t0, hk⟩ := List.forall_mem_cons.mp hk
  have t0 : tv_ok ta (2, 0, 0, [150]) (n_v vs 0) := t0
  have r0 : ta (v_ad (n_v vs 0)) = some 150 := tv_rg t0
  obtain ⟨t1, hk⟩ := List.forall_mem_cons.mp hk
  have t1 : tv_ok ta (0, 0, 99997888, []) (n_v vs 1) := t1
  have k1 : 0 ≤ v_iv (n_v vs 1) ∧ v_iv (n_v vs 1) ≤ 99997888 := tv_rng t1
  obtain ⟨t2, hk⟩ := List.forall_mem_cons.mp hk
  have t2 : tv_ok ta (2, 0, 0, [150]) (n_v vs 2) := t2
  have r2 : ta (v_ad (n_v vs 2)) = some 150 := tv_rg t2
  obtain ⟨t3, hk⟩ := List.forall_mem_cons.mp hk
  have t3 : tv_ok ta (0, 0, 47, []) (n_v vs 3) := t3
  have k3 : 0 ≤ v_iv (n_v vs 3) ∧ v_iv (n_v vs 3) ≤ 47 := tv_rng t3
  obtain ⟨t4, hk⟩ := List.forall_mem_cons.mp hk
  have t4 : tv_ok ta (0, 1, 48, []) (n_v vs 4) := t4
  have k4 : 1 ≤ v_iv (n_v vs 4) ∧ v_iv (n_v vs 4) ≤ 48 := tv_rng t4
  obtain ⟨t5, hk⟩ := List.forall_mem_cons.mp hk
  have t5 : tv_ok ta (0, 0, 23, []) (n_v vs 5) := t5
  have k5 : 0 ≤ v_iv (n_v vs 5) ∧ v_iv (n_v vs 5) ≤ 23 := tv_rng t5
  obtain ⟨t6, hk⟩ := List.forall_mem_cons.mp hk
  have t6 : tv_ok ta (0, 0, 99999992, []) (n_v vs 6) := t6
  have k6 : 0 ≤ v_iv (n_v vs 6) ∧ v_iv (n_v vs 6) ≤ 99999992 := tv_rng t6
  obtain ⟨t10, hk⟩ := List.forall_mem_cons.mp hk
  have t10 : tv_ok ta (0, 0, 99999997, []) (n_v vs 10) := t10
  have k10 : 0 ≤ v_iv (n_v vs 10) ∧ v_iv (n_v vs 10) ≤ 99999997 := tv_rng t10
  obtain ⟨t11, hk⟩ := List.forall_mem_cons.mp hk
  have t11 : tv_ok ta (0, 0, 23, []) (n_v vs 11) := t11
  have k11 : 0 ≤ v_iv (n_v vs 11) ∧ v_iv (n_v vs 11) ≤ 23 := tv_rng t11
  obtain ⟨t12, hk⟩ := List.forall_mem_cons.mp hk
  have t12 : tv_ok ta (0, 0, 99999992, []) (n_v vs 12) := t12
  have k12 : 0 ≤ v_iv (n_v vs 12) ∧ v_iv (n_v vs 12) ≤ 99999992 := tv_rng t12
  obtain ⟨t16, hk⟩ := List.forall_mem_cons.mp hk
  have t16 : tv_ok ta (0, 0, 99999991, []) (n_v vs 16) := t16
  have k16 : 0 ≤ v_iv (n_v vs 16) ∧ v_iv (n_v vs 16) ≤ 99999991 := tv_rng t16
  obtain ⟨t18, hk⟩ := List.forall_mem_cons.mp hk
  have t18 : tv_ok ta (0, 0, 99999987, []) (n_v vs 18) := t18
  have k18 : 0 ≤ v_iv (n_v vs 18) ∧ v_iv (n_v vs 18) ≤ 99999987 := tv_rng t18
  have hds : ∀ q ∈ ([(3, 4, -4294967296, -1)] : List of_T), n_iv vs q.2.1 + q.2.2.1 ≤ n_iv vs q.1 ∧ n_iv vs q.1 ≤ n_iv vs q.2.1 + q.2.2.2 := hds
  obtain ⟨d0, hds⟩ := List.forall_mem_cons.mp hds
  have d0 : v_iv (n_v vs 4) + (-4294967296) ≤ v_iv (n_v vs 3) ∧ v_iv (n_v vs 3) ≤ v_iv (n_v vs 4) + (-1) := d0
  have hf : fc_ok [(23, [18, 1, 3], [28, 1, -1, -44]), (23, [16, 1, 3], [19, 1, -1, -44]), (23, [12, 1, 3], [11, 1, -1, -44]), (20, [11, 2, 3], [50, 1, 1, 1005, 1002, 1, 2, 1, 0, 3, 1, 2, 4, 7, 4, 3, 2, 1, 5, 0, 315, 1, 2]), (23, [10, 1, 3], [8, 1, -1, -44]), (23, [6, 1, 3], [0, 1, -1, -44]), (20, [5, 2, 3], [50, 1, 1, 1005, 1002, 1, 2, 1, 0, 3, 1, 2, 4, 7, 4, 3, 2, 1, 5, 0, 267, 1, 2]), (20, [4, 2], [30, 0, 1, 0, 0, -1, 3, 2005001]), (20, [4, 2], [30, 0, -1, 0, 0, 1, 3, 2005001]), (24, [0, 2], []), (20, [2, 18], [30, 13, 1, 1, 170, -1, 0, 0]), (102, [18], [237142198758023568227473377297792835283496928595231875152809132048206089502588928, 13170]), (23, [18, 1, 3], [28, 1, -1, -44]), (23, [16, 1, 3], [19, 1, -1, -44]), (23, [12, 1, 3], [11, 1, -1, -44]), (23, [10, 1, 3], [8, 1, -1, -44]), (23, [6, 1, 3], [0, 1, -1, -44]), (102, [16], [237142198758023568227473377297792835283496928595231875152809132048206089502588928, 13170]), (23, [16, 1, 3], [19, 1, -1, -44]), (23, [12, 1, 3], [11, 1, -1, -44]), (23, [10, 1, 3], [8, 1, -1, -44]), (23, [6, 1, 3], [0, 1, -1, -44]), (102, [12], [237142198758023568227473377297792835283496928595231875152809132048206089502588928, 13170]), (23, [12, 1, 3], [11, 1, -1, -44]), (23, [10, 1, 3], [8, 1, -1, -44]), (23, [6, 1, 3], [0, 1, -1, -44]), (102, [10], [237142198758023568227473377297792835283496928595231875152809132048206089502588928, 13170]), (23, [10, 1, 3], [8, 1, -1, -44]), (23, [6, 1, 3], [0, 1, -1, -44]), (102, [6], [237142198758023568227473377297792835283496928595231875152809132048206089502588928, 13170]), (23, [6, 1, 3], [0, 1, -1, -44]), (7, [3, 4], [2])] ta ws vs := hf
  obtain ⟨f0, hf⟩ := fc_un (show (23 : Nat) < 100 from by decide) hf
  have f0 : 1 * v_iv (n_v vs 18) + ((-1) * v_iv (n_v vs 1) + ((-44) * v_iv (n_v vs 3) + 0)) ≤ 28 := f0
  obtain ⟨f1, hf⟩ := fc_un (show (23 : Nat) < 100 from by decide) hf
  have f1 : 1 * v_iv (n_v vs 16) + ((-1) * v_iv (n_v vs 1) + ((-44) * v_iv (n_v vs 3) + 0)) ≤ 19 := f1
  obtain ⟨f2, hf⟩ := fc_un (show (23 : Nat) < 100 from by decide) hf
  have f2 : 1 * v_iv (n_v vs 12) + ((-1) * v_iv (n_v vs 1) + ((-44) * v_iv (n_v vs 3) + 0)) ≤ 11 := f2
  obtain ⟨f3, hf⟩ := fc_un (show (20 : Nat) < 100 from by decide) hf
  have f3 : v_iv (n_v vs 11) = w_ei ws (w_ar ws (n_v vs 2) 2) (((w_fi ws (n_v vs 2) 5 + 315) + v_iv (n_v vs 3))) := f3
  obtain ⟨f4, hf⟩ := fc_un (show (23 : Nat) < 100 from by decide) hf
  have f4 : 1 * v_iv (n_v vs 10) + ((-1) * v_iv (n_v vs 1) + ((-44) * v_iv (n_v vs 3) + 0)) ≤ 8 := f4
  obtain ⟨f5, hf⟩ := fc_un (show (23 : Nat) < 100 from by decide) hf
  have f5 : 1 * v_iv (n_v vs 6) + ((-1) * v_iv (n_v vs 1) + ((-44) * v_iv (n_v vs 3) + 0)) ≤ 0 := f5
  obtain ⟨f6, hf⟩ := fc_un (show (20 : Nat) < 100 from by decide) hf
  have f6 : v_iv (n_v vs 5) = w_ei ws (w_ar ws (n_v vs 2) 2) (((w_fi ws (n_v vs 2) 5 + 267) + v_iv (n_v vs 3))) := f6
  obtain ⟨f7, hf⟩ := fc_un (show (20 : Nat) < 100 from by decide) hf
  have f7 : 1 * v_iv (n_v vs 4) + ((-1) * w_el ws (w_ar ws (n_v vs 2) 2) (w_fi ws (n_v vs 2) 5 + 1).toNat + 0) ≤ 0 := f7
  obtain ⟨f8, hf⟩ := fc_un (show (20 : Nat) < 100 from by decide) hf
  have f8 : (-1) * v_iv (n_v vs 4) + (1 * w_el ws (w_ar ws (n_v vs 2) 2) (w_fi ws (n_v vs 2) 5 + 1).toNat + 0) ≤ 0 := f8
  obtain ⟨f9, hf⟩ := fc_un (show (24 : Nat) < 100 from by decide) hf
  have f9 : n_v vs 0 = n_v vs 2 := f9
  obtain ⟨f10, hf⟩ := fc_un (show (20 : Nat) < 100 from by decide) hf
  have f10 : 1 * w_fi ws (n_v vs 2) 170 + ((-1) * v_iv (n_v vs 18) + 0) ≤ 13 := f10
  obtain ⟨ta1, w1, le1, ⟨_, s1⟩, hf⟩ := fc_us (show ¬ (102 : Nat) < 100 from by decide) hf
  obtain ⟨f12, hf⟩ := fc_un (show (23 : Nat) < 100 from by decide) hf
  have f12 : 1 * v_iv (n_v vs 18) + ((-1) * v_iv (n_v vs 1) + ((-44) * v_iv (n_v vs 3) + 0)) ≤ 28 := f12
  obtain ⟨f13, hf⟩ := fc_un (show (23 : Nat) < 100 from by decide) hf
  have f13 : 1 * v_iv (n_v vs 16) + ((-1) * v_iv (n_v vs 1) + ((-44) * v_iv (n_v vs 3) + 0)) ≤ 19 := f13
  obtain ⟨f14, hf⟩ := fc_un (show (23 : Nat) < 100 from by decide) hf
  have f14 : 1 * v_iv (n_v vs 12) + ((-1) * v_iv (n_v vs 1) + ((-44) * v_iv (n_v vs 3) + 0)) ≤ 11 := f14
  obtain ⟨f15, hf⟩ := fc_un (show (23 : Nat) < 100 from by decide) hf
  have f15 : 1 * v_iv (n_v vs 10) + ((-1) * v_iv (n_v vs 1) + ((-44) * v_iv (n_v vs 3) + 0)) ≤ 8 := f15
  obtain ⟨f16, hf⟩ := fc_un (show (23 : Nat) < 100 from by decide) hf
  have f16 : 1 * v_iv (n_v vs 6) + ((-1) * v_iv (n_v vs 1) + ((-44) * v_iv (n_v vs 3) + 0)) ≤ 0 := f16
  obtain ⟨ta2, w2, le2, ⟨_, s2⟩, hf⟩ := fc_us (show ¬ (102 : Nat) < 100 from by decide) hf
  obtain ⟨f18, hf⟩ := fc_un (show (23 : Nat) < 100 from by decide) hf
  have f18 : 1 * v_iv (n_v vs 16) + ((-1) * v_iv (n_v vs 1) + ((-44) * v_iv (n_v vs 3) + 0)) ≤ 19 := f18
  obtain ⟨f19, hf⟩ := fc_un (show (23 : Nat) < 100 from by decide) hf
  have f19 : 1 * v_iv (n_v vs 12) + ((-1) * v_iv (n_v vs 1) + ((-44) * v_iv (n_v vs 3) + 0)) ≤ 11 := f19
  obtain ⟨f20, hf⟩ := fc_un (show (23 : Nat) < 100 from by decide) hf
  have f20 : 1 * v_iv (n_v vs 10) + ((-1) * v_iv (n_v vs 1) + ((-44) * v_iv (n_v vs 3) + 0)) ≤ 8 := f20
  obtain ⟨f21, hf⟩ := fc_un (show (23 : Nat) < 100 from by decide) hf
  have f21 : 1 * v_iv (n_v vs 6) + ((-1) * v_iv (n_v vs 1) + ((-44) * v_iv (n_v vs 3) + 0)) ≤ 0 := f21
  obtain ⟨ta3, w3, le3, ⟨_, s3⟩, hf⟩ := fc_us (show ¬ (102 : Nat) < 100 from by decide) hf
  obtain ⟨f23, hf⟩ := fc_un (show (23 : Nat) < 100 from by decide) hf
  have f23 : 1 * v_iv (n_v vs 12) + ((-1) * v_iv (n_v vs 1) + ((-44) * v_iv (n_v vs 3) + 0)) ≤ 11 := f23
  obtain ⟨f24, hf⟩ := fc_un (show (23 : Nat) < 100 from by decide) hf
  have f24 : 1 * v_iv (n_v vs 10) + ((-1) * v_iv (n_v vs 1) + ((-44) * v_iv (n_v vs 3) + 0)) ≤ 8 := f24
  obtain ⟨f25, hf⟩ := fc_un (show (23 : Nat) < 100 from by decide) hf
  have f25 : 1 * v_iv (n_v vs 6) + ((-1) * v_iv (n_v vs 1) + ((-44) * v_iv (n_v vs 3) + 0)) ≤ 0 := f25
  obtain ⟨ta4, w4, le4, ⟨_, s4⟩, hf⟩ := fc_us (show ¬ (102 : Nat) < 100 from by decide) hf
  obtain ⟨f27, hf⟩ := fc_un (show (23 : Nat) < 100 from by decide) hf
  have f27 : 1 * v_iv (n_v vs 10) + ((-1) * v_iv (n_v vs 1) + ((-44) * v_iv (n_v vs 3) + 0)) ≤ 8 := f27
  obtain ⟨f28, hf⟩ := fc_un (show (23 : Nat) < 100 from by decide) hf
  have f28 : 1 * v_iv (n_v vs 6) + ((-1) * v_iv (n_v vs 1) + ((-44) * v_iv (n_v vs 3) + 0)) ≤ 0 := f28
  obtain ⟨ta5, w5, le5, ⟨_, s5⟩, hf⟩ := fc_us (show ¬ (102 : Nat) < 100 from by decide) hf
  obtain ⟨f30, hf⟩ := fc_un (show (23 : Nat) < 100 from by decide) hf
  have f30 : 1 * v_iv (n_v vs 6) + ((-1) * v_iv (n_v vs 1) + ((-44) * v_iv (n_v vs 3) + 0)) ≤ 0 := f30
  obtain ⟨f31, hf⟩ := fc_un (show (7 : Nat) < 100 from by decide) hf
  have f31 : v_iv (n_v vs 3) < v_iv (n_v vs 4) := f31
  have q2 : n_v vs 2 = n_v vs 0 := f9.symm
  rw [q2] at f3
  rw [q2] at f6
  rw [q2] at f7
  rw [q2] at f8
  rw [q2] at f10
  have cr_0_2 : ta (w_ar ws (n_v vs 0) 2) = some 152 := tv_rg (th_fd hD hth r0 (g := GG_150) rfl (k := 2) (t := (2, 0, 0, [152])) rfl rfl)
  have br_0_2_F5_1_0 : w_ei ws (w_ar ws (n_v vs 0) 2) (w_fi ws (n_v vs 0) 5 + 1) = w_el ws (w_ar ws (n_v vs 0) 2) (w_fi ws (n_v vs 0) 5 + 1).toNat := rfl
  have kz_0_170 : 0 ≤ w_fi ws (n_v vs 0) 170 ∧ w_fi ws (n_v vs 0) 170 ≤ 100000000 := tv_rng (th_fd hD hth r0 (g := GG_150) rfl (k := 170) (t := (0, 0, 100000000, [])) rfl rfl)
  have kv0 : 0 ≤ w_fi ws (n_v vs 0) 170 ∧ w_fi ws (n_v vs 0) 170 ≤ 100000000 := tv_rng (th_fd hD hth r0 (g := GG_150) rfl (k := 170) (t := (0, 0, 100000000, [])) rfl rfl)
  obtain ⟨x, ex, hx⟩ := iv_ex (ta := ta) (lo := 0) (hi := 99999999) (z := w_fi ws (n_v vs 0) 170) (by omega) (by omega) (by omega) (by omega)
  have ex2 : v_iv (Value.int x) = w_fi ws (n_v vs 0) 170 := ex
  have ex3 : 0 ≤ v_iv (Value.int x) ∧ v_iv (Value.int x) ≤ 99999999 := tv_rng hx
  have e_1 : n_v (vs ++ [Value.int x]) 1 = n_v vs 1 := n_v_old (by rw [hl]; decide)
  have e_2 : n_v (vs ++ [Value.int x]) 2 = n_v vs 2 := n_v_old (by rw [hl]; decide)
  have e_3 : n_v (vs ++ [Value.int x]) 3 = n_v vs 3 := n_v_old (by rw [hl]; decide)
  have e_20 : n_v (vs ++ [Value.int x]) 20 = Value.int x := n_v_new hl
  have nf0 : fc_1 (20, [2, 20], [30, 0, 1, 1, 170, -1, 0, 0]) ws (vs ++ [Value.int x]) := by
    refine ⟨fun n hn => ?_, ?_⟩
    · have hn : n ∈ [2, 20] := hn
      rw [List.length_append, hl]
      simp only [List.mem_cons, List.not_mem_nil, or_false] at hn
      show n < 20 + 1; omega
    · show 1 * w_fi ws (n_v (vs ++ [Value.int x]) 2) 170 + ((-1) * v_iv (n_v (vs ++ [Value.int x]) 20) + 0) ≤ 0
      rw [e_2]
      rw [e_20]
      rw [q2]
      omega
  have nf1 : fc_1 (23, [20, 1, 3], [41, 1, -1, -44]) ws (vs ++ [Value.int x]) := by
    refine ⟨fun n hn => ?_, ?_⟩
    · have hn : n ∈ [20, 1, 3] := hn
      rw [List.length_append, hl]
      simp only [List.mem_cons, List.not_mem_nil, or_false] at hn
      show n < 20 + 1; omega
    · show 1 * v_iv (n_v (vs ++ [Value.int x]) 20) + ((-1) * v_iv (n_v (vs ++ [Value.int x]) 1) + ((-44) * v_iv (n_v (vs ++ [Value.int x]) 3) + 0)) ≤ 41
      rw [e_1]
      rw [e_3]
      rw [e_20]
      omega
  exact ⟨(fun _ h => (by cases h)), [Value.int x], ag_one hx, List.forall_mem_cons.mpr ⟨⟨show (20 : Nat) < 100 from by decide, nf0⟩, List.forall_mem_cons.mpr ⟨⟨show (23 : Nat) < 100 from by decide, nf1⟩, (fun _ h => (by cases h))⟩⟩, (fun _ h => (by cases h))⟩
def o_Mo_writeEdges_10 : or_T := (86, 22, [(0, (2, 0, 0, [150])), (1, (0, 0, 99997888, [])), (2, (2, 0, 0, [150])), (3, (0, 0, 47, [])), (4, (0, 1, 48, [])), (5, (0, 0, 23, [])), (6, (0, 0, 99999992, [])), (10, (0, 0, 99999997, [])), (11, (0, 0, 23, [])), (12, (0, 0, 99999992, [])), (16, (0, 0, 99999991, [])), (18, (0, 0, 99999987, [])), (20, (0, 0, 99999999, []))], [(23, [20, 1, 3], [41, 1, -1, -44]), (23, [18, 1, 3], [28, 1, -1, -44]), (23, [16, 1, 3], [19, 1, -1, -44]), (23, [12, 1, 3], [11, 1, -1, -44]), (20, [11, 2, 3], [50, 1, 1, 1005, 1002, 1, 2, 1, 0, 3, 1, 2, 4, 7, 4, 3, 2, 1, 5, 0, 315, 1, 2]), (23, [10, 1, 3], [8, 1, -1, -44]), (23, [6, 1, 3], [0, 1, -1, -44]), (20, [5, 2, 3], [50, 1, 1, 1005, 1002, 1, 2, 1, 0, 3, 1, 2, 4, 7, 4, 3, 2, 1, 5, 0, 267, 1, 2]), (20, [4, 2], [30, 0, 1, 0, 0, -1, 3, 2005001]), (20, [4, 2], [30, 0, -1, 0, 0, 1, 3, 2005001]), (24, [0, 2], []), (20, [2, 20], [30, 1, 1, 1, 170, -1, 0, 0]), (102, [20], [237142198758023568227473377297792835283496928595231875152809132048206089502588928, 13170]), (23, [20, 1, 3], [41, 1, -1, -44]), (23, [18, 1, 3], [28, 1, -1, -44]), (23, [16, 1, 3], [19, 1, -1, -44]), (23, [12, 1, 3], [11, 1, -1, -44]), (23, [10, 1, 3], [8, 1, -1, -44]), (23, [6, 1, 3], [0, 1, -1, -44]), (102, [18], [237142198758023568227473377297792835283496928595231875152809132048206089502588928, 13170]), (23, [18, 1, 3], [28, 1, -1, -44]), (23, [16, 1, 3], [19, 1, -1, -44]), (23, [12, 1, 3], [11, 1, -1, -44]), (23, [10, 1, 3], [8, 1, -1, -44]), (23, [6, 1, 3], [0, 1, -1, -44]), (102, [16], [237142198758023568227473377297792835283496928595231875152809132048206089502588928, 13170]), (23, [16, 1, 3], [19, 1, -1, -44]), (23, [12, 1, 3], [11, 1, -1, -44]), (23, [10, 1, 3], [8, 1, -1, -44]), (23, [6, 1, 3], [0, 1, -1, -44]), (102, [12], [237142198758023568227473377297792835283496928595231875152809132048206089502588928, 13170]), (23, [12, 1, 3], [11, 1, -1, -44]), (23, [10, 1, 3], [8, 1, -1, -44]), (23, [6, 1, 3], [0, 1, -1, -44]), (102, [10], [237142198758023568227473377297792835283496928595231875152809132048206089502588928, 13170]), (23, [10, 1, 3], [8, 1, -1, -44]), (23, [6, 1, 3], [0, 1, -1, -44]), (102, [6], [237142198758023568227473377297792835283496928595231875152809132048206089502588928, 13170]), (23, [6, 1, 3], [0, 1, -1, -44]), (7, [3, 4], [2])], [], [(0, 0, 99999998, [])], [(20, [2, 22], [30, 0, 1, 1, 170, -1, 0, 0]), (23, [22, 1, 3], [42, 1, -1, -44])], [], [(3, 4, -4294967296, -1)])
theorem oo_Mo_writeEdges_10 {kA : Nat → ClassId} : or_ok kA GG o_Mo_writeEdges_10 := by
  intro A ta ws vs hD hth hl hk hds hf
  have hl : vs.length = 22 := hl
  have hk : ∀ q ∈ ([(0, (2, 0, 0, [150])), (1, (0, 0, 99997888, [])), (2, (2, 0, 0, [150])), (3, (0, 0, 47, [])), (4, (0, 1, 48, [])), (5, (0, 0, 23, [])), (6, (0, 0, 99999992, [])), (10, (0, 0, 99999997, [])), (11, (0, 0, 23, [])), (12, (0, 0, 99999992, [])), (16, (0, 0, 99999991, [])), (18, (0, 0, 99999987, [])), (20, (0, 0, 99999999, []))] : List (Nat × tv_T)), tv_ok ta q.2 (n_v vs q.1) := hk
  obtain ⟨t0, hk⟩ := List.forall_mem_cons.mp hk
  have t0 : tv_ok ta (2, 0, 0, [150]) (n_v vs 0) := t0
  have r0 : ta (v_ad (n_v vs 0)) = some 150 := tv_rg t0
  obtain ⟨t1, hk⟩ := List.forall_mem_cons.mp hk
  have t1 : tv_ok ta (0, 0, 99997888, []) (n_v vs 1) := t1
  have k1 : 0 ≤ v_iv (n_v vs 1) ∧ v_iv (n_v vs 1) ≤ 99997888 := tv_rng t1
  obtain ⟨t2, hk⟩ := List.forall_mem_cons.mp hk
  have t2 : tv_ok ta (2, 0, 0, [150]) (n_v vs 2) := t2
  have r2 : ta (v_ad (n_v vs 2)) = some 150 := tv_rg t2
  obtain ⟨t3, hk⟩ := List.forall_mem_cons.mp hk
  have t3 : tv_ok ta (0, 0, 47, []) (n_v vs 3) := t3
  have k3 : 0 ≤ v_iv (n_v vs 3) ∧ v_iv (n_v vs 3) ≤ 47 := tv_rng t3
  obtain ⟨t4, hk⟩ := List.forall_mem_cons.mp hk
  have t4 : tv_ok ta (0, 1, 48, []) (n_v vs 4) := t4
  have k4 : 1 ≤ v_iv (n_v vs 4) ∧ v_iv (n_v vs 4) ≤ 48 := tv_rng t4
  obtain ⟨t5, hk⟩ := List.forall_mem_cons.mp hk
  have t5 : tv_ok ta (0, 0, 23, []) (n_v vs 5) := t5
  have k5 : 0 ≤ v_iv (n_v vs 5) ∧ v_iv (n_v vs 5) ≤ 23 := tv_rng t5
  obtain ⟨t6, hk⟩ := List.forall_mem_cons.mp hk
  have t6 : tv_ok ta (0, 0, 99999992, []) (n_v vs 6) := t6
  have k6 : 0 ≤ v_iv (n_v vs 6) ∧ v_iv (n_v vs 6) ≤ 99999992 := tv_rng t6
  obtain ⟨t10, hk⟩ := List.forall_mem_cons.mp hk
  have t10 : tv_ok ta (0, 0, 99999997, []) (n_v vs 10) := t10
  have k10 : 0 ≤ v_iv (n_v vs 10) ∧ v_iv (n_v vs 10) ≤ 99999997 := tv_rng t10
  obtain ⟨t11, hk⟩ := List.forall_mem_cons.mp hk
  have t11 : tv_ok ta (0, 0, 23, []) (n_v vs 11) := t11
  have k11 : 0 ≤ v_iv (n_v vs 11) ∧ v_iv (n_v vs 11) ≤ 23 := tv_rng t11
  obtain ⟨t12, hk⟩ := List.forall_mem_cons.mp hk
  have t12 : tv_ok ta (0, 0, 99999992, []) (n_v vs 12) := t12
  have k12 : 0 ≤ v_iv (n_v vs 12) ∧ v_iv (n_v vs 12) ≤ 99999992 := tv_rng t12
  obtain ⟨t16, hk⟩ := List.forall_mem_cons.mp hk
  have t16 : tv_ok ta (0, 0, 99999991, []) (n_v vs 16) := t16
  have k16 : 0 ≤ v_iv (n_v vs 16) ∧ v_iv (n_v vs 16) ≤ 99999991 := tv_rng t16
  obtain ⟨t18, hk⟩ := List.forall_mem_cons.mp hk
  have t18 : tv_ok ta (0, 0, 99999987, []) (n_v vs 18) := t18
  have k18 : 0 ≤ v_iv (n_v vs 18) ∧ v_iv (n_v vs 18) ≤ 99999987 := tv_rng t18
  obtain ⟨t20, hk⟩ := List.forall_mem_cons.mp hk
  have t20 : tv_ok ta (0, 0, 99999999, []) (n_v vs 20) := t20
  have k20 : 0 ≤ v_iv (n_v vs 20) ∧ v_iv (n_v vs 20) ≤ 99999999 := tv_rng t20
  have hds : ∀ q ∈ ([(3, 4, -4294967296, -1)] : List of_T), n_iv vs q.2.1 + q.2.2.1 ≤ n_iv vs q.1 ∧ n_iv vs q.1 ≤ n_iv vs q.2.1 + q.2.2.2 := hds
  obtain ⟨d0, hds⟩ := List.forall_mem_cons.mp hds
  have d0 : v_iv (n_v vs 4) + (-4294967296) ≤ v_iv (n_v vs 3) ∧ v_iv (n_v vs 3) ≤ v_iv (n_v vs 4) + (-1) := d0
  have hf : fc_ok [(23, [20, 1, 3], [41, 1, -1, -44]), (23, [18, 1, 3], [28, 1, -1, -44]), (23, [16, 1, 3], [19, 1, -1, -44]), (23, [12, 1, 3], [11, 1, -1, -44]), (20, [11, 2, 3], [50, 1, 1, 1005, 1002, 1, 2, 1, 0, 3, 1, 2, 4, 7, 4, 3, 2, 1, 5, 0, 315, 1, 2]), (23, [10, 1, 3], [8, 1, -1, -44]), (23, [6, 1, 3], [0, 1, -1, -44]), (20, [5, 2, 3], [50, 1, 1, 1005, 1002, 1, 2, 1, 0, 3, 1, 2, 4, 7, 4, 3, 2, 1, 5, 0, 267, 1, 2]), (20, [4, 2], [30, 0, 1, 0, 0, -1, 3, 2005001]), (20, [4, 2], [30, 0, -1, 0, 0, 1, 3, 2005001]), (24, [0, 2], []), (20, [2, 20], [30, 1, 1, 1, 170, -1, 0, 0]), (102, [20], [237142198758023568227473377297792835283496928595231875152809132048206089502588928, 13170]), (23, [20, 1, 3], [41, 1, -1, -44]), (23, [18, 1, 3], [28, 1, -1, -44]), (23, [16, 1, 3], [19, 1, -1, -44]), (23, [12, 1, 3], [11, 1, -1, -44]), (23, [10, 1, 3], [8, 1, -1, -44]), (23, [6, 1, 3], [0, 1, -1, -44]), (102, [18], [237142198758023568227473377297792835283496928595231875152809132048206089502588928, 13170]), (23, [18, 1, 3], [28, 1, -1, -44]), (23, [16, 1, 3], [19, 1, -1, -44]), (23, [12, 1, 3], [11, 1, -1, -44]), (23, [10, 1, 3], [8, 1, -1, -44]), (23, [6, 1, 3], [0, 1, -1, -44]), (102, [16], [237142198758023568227473377297792835283496928595231875152809132048206089502588928, 13170]), (23, [16, 1, 3], [19, 1, -1, -44]), (23, [12, 1, 3], [11, 1, -1, -44]), (23, [10, 1, 3], [8, 1, -1, -44]), (23, [6, 1, 3], [0, 1, -1, -44]), (102, [12], [237142198758023568227473377297792835283496928595231875152809132048206089502588928, 13170]), (23, [12, 1, 3], [11, 1, -1, -44]), (23, [10, 1, 3], [8, 1, -1, -44]), (23, [6, 1, 3], [0, 1, -1, -44]), (102, [10], [237142198758023568227473377297792835283496928595231875152809132048206089502588928, 13170]), (23, [10, 1, 3], [8, 1, -1, -44]), (23, [6, 1, 3], [0, 1, -1, -44]), (102, [6], [237142198758023568227473377297792835283496928595231875152809132048206089502588928, 13170]), (23, [6, 1, 3], [0, 1, -1, -44]), (7, [3, 4], [2])] ta ws vs := hf
  obtain ⟨f0, hf⟩ := fc_un (show (23 : Nat) < 100 from by decide) hf
  have f0 : 1 * v_iv (n_v vs 20) + ((-1) * v_iv (n_v vs 1) + ((-44) * v_iv (n_v vs 3) + 0)) ≤ 41 := f0
  obtain ⟨f1, hf⟩ := fc_un (show (23 : Nat) < 100 from by decide) hf
  have f1 : 1 * v_iv (n_v vs 18) + ((-1) * v_iv (n_v vs 1) + ((-44) * v_iv (n_v vs 3) + 0)) ≤ 28 := f1
  obtain ⟨f2, hf⟩ := fc_un (show (23 : Nat) < 100 from by decide) hf
  have f2 : 1 * v_iv (n_v vs 16) + ((-1) * v_iv (n_v vs 1) + ((-44) * v_iv (n_v vs 3) + 0)) ≤ 19 := f2
  obtain ⟨f3, hf⟩ := fc_un (show (23 : Nat) < 100 from by decide) hf
  have f3 : 1 * v_iv (n_v vs 12) + ((-1) * v_iv (n_v vs 1) + ((-44) * v_iv (n_v vs 3) + 0)) ≤ 11 := f3
  obtain ⟨f4, hf⟩ := fc_un (show (20 : Nat) < 100 from by decide) hf
  have f4 : v_iv (n_v vs 11) = w_ei ws (w_ar ws (n_v vs 2) 2) (((w_fi ws (n_v vs 2) 5 + 315) + v_iv (n_v vs 3))) := f4
  obtain ⟨f5, hf⟩ := fc_un (show (23 : Nat) < 100 from by decide) hf
  have f5 : 1 * v_iv (n_v vs 10) + ((-1) * v_iv (n_v vs 1) + ((-44) * v_iv (n_v vs 3) + 0)) ≤ 8 := f5
  obtain ⟨f6, hf⟩ := fc_un (show (23 : Nat) < 100 from by decide) hf
  have f6 : 1 * v_iv (n_v vs 6) + ((-1) * v_iv (n_v vs 1) + ((-44) * v_iv (n_v vs 3) + 0)) ≤ 0 := f6
  obtain ⟨f7, hf⟩ := fc_un (show (20 : Nat) < 100 from by decide) hf
  have f7 : v_iv (n_v vs 5) = w_ei ws (w_ar ws (n_v vs 2) 2) (((w_fi ws (n_v vs 2) 5 + 267) + v_iv (n_v vs 3))) := f7
  obtain ⟨f8, hf⟩ := fc_un (show (20 : Nat) < 100 from by decide) hf
  have f8 : 1 * v_iv (n_v vs 4) + ((-1) * w_el ws (w_ar ws (n_v vs 2) 2) (w_fi ws (n_v vs 2) 5 + 1).toNat + 0) ≤ 0 := f8
  obtain ⟨f9, hf⟩ := fc_un (show (20 : Nat) < 100 from by decide) hf
  have f9 : (-1) * v_iv (n_v vs 4) + (1 * w_el ws (w_ar ws (n_v vs 2) 2) (w_fi ws (n_v vs 2) 5 + 1).toNat + 0) ≤ 0 := f9
  obtain ⟨f10, hf⟩ := fc_un (show (24 : Nat) < 100 from by decide) hf
  have f10 : n_v vs 0 = n_v vs 2 := f10
  obtain ⟨f11, hf⟩ := fc_un (show (20 : Nat) < 100 from by decide) hf
  have f11 : 1 * w_fi ws (n_v vs 2) 170 + ((-1) * v_iv (n_v vs 20) + 0) ≤ 1 := f11
  obtain ⟨ta1, w1, le1, ⟨_, s1⟩, hf⟩ := fc_us (show ¬ (102 : Nat) < 100 from by decide) hf
  obtain ⟨f13, hf⟩ := fc_un (show (23 : Nat) < 100 from by decide) hf
  have f13 : 1 * v_iv (n_v vs 20) + ((-1) * v_iv (n_v vs 1) + ((-44) * v_iv (n_v vs 3) + 0)) ≤ 41 := f13
  obtain ⟨f14, hf⟩ := fc_un (show (23 : Nat) < 100 from by decide) hf
  have f14 : 1 * v_iv (n_v vs 18) + ((-1) * v_iv (n_v vs 1) + ((-44) * v_iv (n_v vs 3) + 0)) ≤ 28 := f14
  obtain ⟨f15, hf⟩ := fc_un (show (23 : Nat) < 100 from by decide) hf
  have f15 : 1 * v_iv (n_v vs 16) + ((-1) * v_iv (n_v vs 1) + ((-44) * v_iv (n_v vs 3) + 0)) ≤ 19 := f15
  obtain ⟨f16, hf⟩ := fc_un (show (23 : Nat) < 100 from by decide) hf
  have f16 : 1 * v_iv (n_v vs 12) + ((-1) * v_iv (n_v vs 1) + ((-44) * v_iv (n_v vs 3) + 0)) ≤ 11 := f16
  obtain ⟨f17, hf⟩ := fc_un (show (23 : Nat) < 100 from by decide) hf
  have f17 : 1 * v_iv (n_v vs 10) + ((-1) * v_iv (n_v vs 1) + ((-44) * v_iv (n_v vs 3) + 0)) ≤ 8 := f17
  obtain ⟨f18, hf⟩ := fc_un (show (23 : Nat) < 100 from by decide) hf
  have f18 : 1 * v_iv (n_v vs 6) + ((-1) * v_iv (n_v vs 1) + ((-44) * v_iv (n_v vs 3) + 0)) ≤ 0 := f18
  obtain ⟨ta2, w2, le2, ⟨_, s2⟩, hf⟩ := fc_us (show ¬ (102 : Nat) < 100 from by decide) hf
  obtain ⟨f20, hf⟩ := fc_un (show (23 : Nat) < 100 from by decide) hf
  have f20 : 1 * v_iv (n_v vs 18) + ((-1) * v_iv (n_v vs 1) + ((-44) * v_iv (n_v vs 3) + 0)) ≤ 28 := f20
  obtain ⟨f21, hf⟩ := fc_un (show (23 : Nat) < 100 from by decide) hf
  have f21 : 1 * v_iv (n_v vs 16) + ((-1) * v_iv (n_v vs 1) + ((-44) * v_iv (n_v vs 3) + 0)) ≤ 19 := f21
  obtain ⟨f22, hf⟩ := fc_un (show (23 : Nat) < 100 from by decide) hf
  have f22 : 1 * v_iv (n_v vs 12) + ((-1) * v_iv (n_v vs 1) + ((-44) * v_iv (n_v vs 3) + 0)) ≤ 11 := f22
  obtain ⟨f23, hf⟩ := fc_un (show (23 : Nat) < 100 from by decide) hf
  have f23 : 1 * v_iv (n_v vs 10) + ((-1) * v_iv (n_v vs 1) + ((-44) * v_iv (n_v vs 3) + 0)) ≤ 8 := f23
  obtain ⟨f24, hf⟩ := fc_un (show (23 : Nat) < 100 from by decide) hf
  have f24 : 1 * v_iv (n_v vs 6) + ((-1) * v_iv (n_v vs 1) + ((-44) * v_iv (n_v vs 3) + 0)) ≤ 0 := f24
  obtain ⟨ta3, w3, le3, ⟨_, s3⟩, hf⟩ := fc_us (show ¬ (102 : Nat) < 100 from by decide) hf
  obtain ⟨f26, hf⟩ := fc_un (show (23 : Nat) < 100 from by decide) hf
  have f26 : 1 * v_iv (n_v vs 16) + ((-1) * v_iv (n_v vs 1) + ((-44) * v_iv (n_v vs 3) + 0)) ≤ 19 := f26
  obtain ⟨f27, hf⟩ := fc_un (show (23 : Nat) < 100 from by decide) hf
  have f27 : 1 * v_iv (n_v vs 12) + ((-1) * v_iv (n_v vs 1) + ((-44) * v_iv (n_v vs 3) + 0)) ≤ 11 := f27
  obtain ⟨f28, hf⟩ := fc_un (show (23 : Nat) < 100 from by decide) hf
  have f28 : 1 * v_iv (n_v vs 10) + ((-1) * v_iv (n_v vs 1) + ((-44) * v_iv (n_v vs 3) + 0)) ≤ 8 := f28
  obtain ⟨f29, hf⟩ := fc_un (show (23 : Nat) < 100 from by decide) hf
  have f29 : 1 * v_iv (n_v vs 6) + ((-1) * v_iv (n_v vs 1) + ((-44) * v_iv (n_v vs 3) + 0)) ≤ 0 := f29
  obtain ⟨ta4, w4, le4, ⟨_, s4⟩, hf⟩ := fc_us (show ¬ (102 : Nat) < 100 from by decide) hf
  obtain ⟨f31, hf⟩ := fc_un (show (23 : Nat) < 100 from by decide) hf
  have f31 : 1 * v_iv (n_v vs 12) + ((-1) * v_iv (n_v vs 1) + ((-44) * v_iv (n_v vs 3) + 0)) ≤ 11 := f31
  obtain ⟨f32, hf⟩ := fc_un (show (23 : Nat) < 100 from by decide) hf
  have f32 : 1 * v_iv (n_v vs 10) + ((-1) * v_iv (n_v vs 1) + ((-44) * v_iv (n_v vs 3) + 0)) ≤ 8 := f32
  obtain ⟨f33, hf⟩ := fc_un (show (23 : Nat) < 100 from by decide) hf
  have f33 : 1 * v_iv (n_v vs 6) + ((-1) * v_iv (n_v vs 1) + ((-44) * v_iv (n_v vs 3) + 0)) ≤ 0 := f33
  obtain ⟨ta5, w5, le5, ⟨_, s5⟩, hf⟩ := fc_us (show ¬ (102 : Nat) < 100 from by decide) hf
  obtain ⟨f35, hf⟩ := fc_un (show (23 : Nat) < 100 from by decide) hf
  have f35 : 1 * v_iv (n_v vs 10) + ((-1) * v_iv (n_v vs 1) + ((-44) * v_iv (n_v vs 3) + 0)) ≤ 8 := f35
  obtain ⟨f36, hf⟩ := fc_un (show (23 : Nat) < 100 from by decide) hf
  have f36 : 1 * v_iv (n_v vs 6) + ((-1) * v_iv (n_v vs 1) + ((-44) * v_iv (n_v vs 3) + 0)) ≤ 0 := f36
  obtain ⟨ta6, w6, le6, ⟨_, s6⟩, hf⟩ := fc_us (show ¬ (102 : Nat) < 100 from by decide) hf
  obtain ⟨f38, hf⟩ := fc_un (show (23 : Nat) < 100 from by decide) hf
  have f38 : 1 * v_iv (n_v vs 6) + ((-1) * v_iv (n_v vs 1) + ((-44) * v_iv (n_v vs 3) + 0)) ≤ 0 := f38
  obtain ⟨f39, hf⟩ := fc_un (show (7 : Nat) < 100 from by decide) hf
  have f39 : v_iv (n_v vs 3) < v_iv (n_v vs 4) := f39
  have q2 : n_v vs 2 = n_v vs 0 := f10.symm
  rw [q2] at f4
  rw [q2] at f7
  rw [q2] at f8
  rw [q2] at f9
  rw [q2] at f11
  have cr_0_2 : ta (w_ar ws (n_v vs 0) 2) = some 152 := tv_rg (th_fd hD hth r0 (g := GG_150) rfl (k := 2) (t := (2, 0, 0, [152])) rfl rfl)
  have br_0_2_F5_1_0 : w_ei ws (w_ar ws (n_v vs 0) 2) (w_fi ws (n_v vs 0) 5 + 1) = w_el ws (w_ar ws (n_v vs 0) 2) (w_fi ws (n_v vs 0) 5 + 1).toNat := rfl
  have kz_0_170 : 0 ≤ w_fi ws (n_v vs 0) 170 ∧ w_fi ws (n_v vs 0) 170 ≤ 100000000 := tv_rng (th_fd hD hth r0 (g := GG_150) rfl (k := 170) (t := (0, 0, 100000000, [])) rfl rfl)
  have kv0 : 0 ≤ w_fi ws (n_v vs 0) 170 ∧ w_fi ws (n_v vs 0) 170 ≤ 100000000 := tv_rng (th_fd hD hth r0 (g := GG_150) rfl (k := 170) (t := (0, 0, 100000000, [])) rfl rfl)
  obtain ⟨x, ex, hx⟩ := iv_ex (ta := ta) (lo := 0) (hi := 99999998) (z := w_fi ws (n_v vs 0) 170) (by omega) (by omega) (by omega) (by omega)
  have ex2 : v_iv (Value.int x) = w_fi ws (n_v vs 0) 170 := ex
  have ex3 : 0 ≤ v_iv (Value.int x) ∧ v_iv (Value.int x) ≤ 99999998 := tv_rng hx
  have e_1 : n_v (vs ++ [Value.int x]) 1 = n_v vs 1 := n_v_old (by rw [hl]; decide)
  have e_2 : n_v (vs ++ [Value.int x]) 2 = n_v vs 2 := n_v_old (by rw [hl]; decide)
  have e_3 : n_v (vs ++ [Value.int x]) 3 = n_v vs 3 := n_v_old (by rw [hl]; decide)
  have e_22 : n_v (vs ++ [Value.int x]) 22 = Value.int x := n_v_new hl
  have nf0 : fc_1 (20, [2, 22], [30, 0, 1, 1, 170, -1, 0, 0]) ws (vs ++ [Value.int x]) := by
    refine ⟨fun n hn => ?_, ?_⟩
    · have hn : n ∈ [2, 22] := hn
      rw [List.length_append, hl]
      simp only [List.mem_cons, List.not_mem_nil, or_false] at hn
      show n < 22 + 1; omega
    · show 1 * w_fi ws (n_v (vs ++ [Value.int x]) 2) 170 + ((-1) * v_iv (n_v (vs ++ [Value.int x]) 22) + 0) ≤ 0
      rw [e_2]
      rw [e_22]
      rw [q2]
      omega
  have nf1 : fc_1 (23, [22, 1, 3], [42, 1, -1, -44]) ws (vs ++ [Value.int x]) := by
    refine ⟨fun n hn => ?_, ?_⟩
    · have hn : n ∈ [22, 1, 3] := hn
      rw [List.length_append, hl]
      simp only [List.mem_cons, List.not_mem_nil, or_false] at hn
      show n < 22 + 1; omega
    · show 1 * v_iv (n_v (vs ++ [Value.int x]) 22) + ((-1) * v_iv (n_v (vs ++ [Value.int x]) 1) + ((-44) * v_iv (n_v (vs ++ [Value.int x]) 3) + 0)) ≤ 42
      rw [e_1]
      rw [e_3]
      rw [e_22]
      omega
  exact ⟨(fun _ h => (by cases h)), [Value.int x], ag_one hx, List.forall_mem_cons.mpr ⟨⟨show (20 : Nat) < 100 from by decide, nf0⟩, List.forall_mem_cons.mpr ⟨⟨show (23 : Nat) < 100 from by decide, nf1⟩, (fun _ h => (by cases h))⟩⟩, (fun _ h => (by cases h))⟩
def o_Mo_writeEdges_11 : or_T := (2, 24, [(0, (2, 0, 0, [150])), (1, (0, 0, 99997888, [])), (2, (2, 0, 0, [150])), (3, (0, 0, 47, [])), (4, (0, 1, 48, [])), (5, (0, 0, 23, [])), (6, (0, 0, 99999992, [])), (10, (0, 0, 99999997, [])), (11, (0, 0, 23, [])), (12, (0, 0, 99999992, [])), (16, (0, 0, 99999991, [])), (18, (0, 0, 99999987, [])), (20, (0, 0, 99999999, [])), (22, (0, 0, 99999998, [])), (23, (0, 1, 48, []))], [(6, [23, 3], [1]), (23, [22, 1, 3], [42, 1, -1, -44]), (23, [20, 1, 3], [41, 1, -1, -44]), (23, [18, 1, 3], [28, 1, -1, -44]), (23, [16, 1, 3], [19, 1, -1, -44]), (23, [12, 1, 3], [11, 1, -1, -44]), (20, [11, 2, 3], [50, 1, 1, 1005, 1002, 1, 2, 1, 0, 3, 1, 2, 4, 7, 4, 3, 2, 1, 5, 0, 315, 1, 2]), (23, [10, 1, 3], [8, 1, -1, -44]), (23, [6, 1, 3], [0, 1, -1, -44]), (20, [5, 2, 3], [50, 1, 1, 1005, 1002, 1, 2, 1, 0, 3, 1, 2, 4, 7, 4, 3, 2, 1, 5, 0, 267, 1, 2]), (20, [4, 2], [30, 0, 1, 0, 0, -1, 3, 2005001]), (20, [4, 2], [30, 0, -1, 0, 0, 1, 3, 2005001]), (24, [0, 2], []), (20, [2, 22], [30, 2, 1, 1, 170, -1, 0, 0]), (102, [22], [237142198758023568227473377297792835283496928595231875152809132048206089502588928, 13170]), (23, [22, 1, 3], [42, 1, -1, -44]), (23, [20, 1, 3], [41, 1, -1, -44]), (23, [18, 1, 3], [28, 1, -1, -44]), (23, [16, 1, 3], [19, 1, -1, -44]), (23, [12, 1, 3], [11, 1, -1, -44]), (23, [10, 1, 3], [8, 1, -1, -44]), (23, [6, 1, 3], [0, 1, -1, -44]), (102, [20], [237142198758023568227473377297792835283496928595231875152809132048206089502588928, 13170]), (23, [20, 1, 3], [41, 1, -1, -44]), (23, [18, 1, 3], [28, 1, -1, -44]), (23, [16, 1, 3], [19, 1, -1, -44]), (23, [12, 1, 3], [11, 1, -1, -44]), (23, [10, 1, 3], [8, 1, -1, -44]), (23, [6, 1, 3], [0, 1, -1, -44]), (102, [18], [237142198758023568227473377297792835283496928595231875152809132048206089502588928, 13170]), (23, [18, 1, 3], [28, 1, -1, -44]), (23, [16, 1, 3], [19, 1, -1, -44]), (23, [12, 1, 3], [11, 1, -1, -44]), (23, [10, 1, 3], [8, 1, -1, -44]), (23, [6, 1, 3], [0, 1, -1, -44]), (102, [16], [237142198758023568227473377297792835283496928595231875152809132048206089502588928, 13170]), (23, [16, 1, 3], [19, 1, -1, -44]), (23, [12, 1, 3], [11, 1, -1, -44]), (23, [10, 1, 3], [8, 1, -1, -44]), (23, [6, 1, 3], [0, 1, -1, -44]), (102, [12], [237142198758023568227473377297792835283496928595231875152809132048206089502588928, 13170]), (23, [12, 1, 3], [11, 1, -1, -44]), (23, [10, 1, 3], [8, 1, -1, -44]), (23, [6, 1, 3], [0, 1, -1, -44]), (102, [10], [237142198758023568227473377297792835283496928595231875152809132048206089502588928, 13170]), (23, [10, 1, 3], [8, 1, -1, -44]), (23, [6, 1, 3], [0, 1, -1, -44]), (102, [6], [237142198758023568227473377297792835283496928595231875152809132048206089502588928, 13170]), (23, [6, 1, 3], [0, 1, -1, -44]), (7, [3, 4], [2])], [], [], [(20, [2, 1, 23], [30, 0, 1, 1, 170, -1, 0, 0, -44, 0, 0])], [], [(23, 3, 1, 1), (23, 4, -4294967296, 0), (3, 4, -4294967296, -1)])
theorem oo_Mo_writeEdges_11 {kA : Nat → ClassId} : or_ok kA GG o_Mo_writeEdges_11 := by
  intro A ta ws vs hD hth hl hk hds hf
  have hl : vs.length = 24 := hl
  have hk : ∀ q ∈ ([(0, (2, 0, 0, [150])), (1, (0, 0, 99997888, [])), (2, (2, 0, 0, [150])), (3, (0, 0, 47, [])), (4, (0, 1, 48, [])), (5, (0, 0, 23, [])), (6, (0, 0, 99999992, [])), (10, (0, 0, 99999997, [])), (11, (0, 0, 23, [])), (12, (0, 0, 99999992, [])), (16, (0, 0, 99999991, [])), (18, (0, 0, 99999987, [])), (20, (0, 0, 99999999, [])), (22, (0, 0, 99999998, [])), (23, (0, 1, 48, []))] : List (Nat × tv_T)), tv_ok ta q.2 (n_v vs q.1) := hk
  obtain ⟨t0, hk⟩ := List.forall_mem_cons.mp hk
  have t0 : tv_ok ta (2, 0, 0, [150]) (n_v vs 0) := t0
  have r0 : ta (v_ad (n_v vs 0)) = some 150 := tv_rg t0
  obtain ⟨t1, hk⟩ := List.forall_mem_cons.mp hk
  have t1 : tv_ok ta (0, 0, 99997888, []) (n_v vs 1) := t1
  have k1 : 0 ≤ v_iv (n_v vs 1) ∧ v_iv (n_v vs 1) ≤ 99997888 := tv_rng t1
  obtain ⟨t2, hk⟩ := List.forall_mem_cons.mp hk
  have t2 : tv_ok ta (2, 0, 0, [150]) (n_v vs 2) := t2
  have r2 : ta (v_ad (n_v vs 2)) = some 150 := tv_rg t2
  obtain ⟨t3, hk⟩ := List.forall_mem_cons.mp hk
  have t3 : tv_ok ta (0, 0, 47, []) (n_v vs 3) := t3
  have k3 : 0 ≤ v_iv (n_v vs 3) ∧ v_iv (n_v vs 3) ≤ 47 := tv_rng t3
  obtain ⟨t4, hk⟩ := List.forall_mem_cons.mp hk
  have t4 : tv_ok ta (0, 1, 48, []) (n_v vs 4) := t4
  have k4 : 1 ≤ v_iv (n_v vs 4) ∧ v_iv (n_v vs 4) ≤ 48 := tv_rng t4
  obtain ⟨t5, hk⟩ := List.forall_mem_cons.mp hk
  have t5 : tv_ok ta (0, 0, 23, []) (n_v vs 5) := t5
  have k5 : 0 ≤ v_iv (n_v vs 5) ∧ v_iv (n_v vs 5) ≤ 23 := tv_rng t5
  obtain ⟨t6, hk⟩ := List.forall_mem_cons.mp hk
  have t6 : tv_ok ta (0, 0, 99999992, []) (n_v vs 6) := t6
  have k6 : 0 ≤ v_iv (n_v vs 6) ∧ v_iv (n_v vs 6) ≤ 99999992 := tv_rng t6
  obtain ⟨t10, hk⟩ := List.forall_mem_cons.mp hk
  have t10 : tv_ok ta (0, 0, 99999997, []) (n_v vs 10) := t10
  have k10 : 0 ≤ v_iv (n_v vs 10) ∧ v_iv (n_v vs 10) ≤ 99999997 := tv_rng t10
  obtain ⟨t11, hk⟩ := List.forall_mem_cons.mp hk
  have t11 : tv_ok ta (0, 0, 23, []) (n_v vs 11) := t11
  have k11 : 0 ≤ v_iv (n_v vs 11) ∧ v_iv (n_v vs 11) ≤ 23 := tv_rng t11
  obtain ⟨t12, hk⟩ := List.forall_mem_cons.mp hk
  have t12 : tv_ok ta (0, 0, 99999992, []) (n_v vs 12) := t12
  have k12 : 0 ≤ v_iv (n_v vs 12) ∧ v_iv (n_v vs 12) ≤ 99999992 := tv_rng t12
  obtain ⟨t16, hk⟩ := List.forall_mem_cons.mp hk
  have t16 : tv_ok ta (0, 0, 99999991, []) (n_v vs 16) := t16
  have k16 : 0 ≤ v_iv (n_v vs 16) ∧ v_iv (n_v vs 16) ≤ 99999991 := tv_rng t16
  obtain ⟨t18, hk⟩ := List.forall_mem_cons.mp hk
  have t18 : tv_ok ta (0, 0, 99999987, []) (n_v vs 18) := t18
  have k18 : 0 ≤ v_iv (n_v vs 18) ∧ v_iv (n_v vs 18) ≤ 99999987 := tv_rng t18
  obtain ⟨t20, hk⟩ := List.forall_mem_cons.mp hk
  have t20 : tv_ok ta (0, 0, 99999999, []) (n_v vs 20) := t20
  have k20 : 0 ≤ v_iv (n_v vs 20) ∧ v_iv (n_v vs 20) ≤ 99999999 := tv_rng t20
  obtain ⟨t22, hk⟩ := List.forall_mem_cons.mp hk
  have t22 : tv_ok ta (0, 0, 99999998, []) (n_v vs 22) := t22
  have k22 : 0 ≤ v_iv (n_v vs 22) ∧ v_iv (n_v vs 22) ≤ 99999998 := tv_rng t22
  obtain ⟨t23, hk⟩ := List.forall_mem_cons.mp hk
  have t23 : tv_ok ta (0, 1, 48, []) (n_v vs 23) := t23
  have k23 : 1 ≤ v_iv (n_v vs 23) ∧ v_iv (n_v vs 23) ≤ 48 := tv_rng t23
  have hds : ∀ q ∈ ([(23, 3, 1, 1), (23, 4, -4294967296, 0), (3, 4, -4294967296, -1)] : List of_T), n_iv vs q.2.1 + q.2.2.1 ≤ n_iv vs q.1 ∧ n_iv vs q.1 ≤ n_iv vs q.2.1 + q.2.2.2 := hds
  obtain ⟨d0, hds⟩ := List.forall_mem_cons.mp hds
  have d0 : v_iv (n_v vs 3) + 1 ≤ v_iv (n_v vs 23) ∧ v_iv (n_v vs 23) ≤ v_iv (n_v vs 3) + 1 := d0
  obtain ⟨d1, hds⟩ := List.forall_mem_cons.mp hds
  have d1 : v_iv (n_v vs 4) + (-4294967296) ≤ v_iv (n_v vs 23) ∧ v_iv (n_v vs 23) ≤ v_iv (n_v vs 4) + 0 := d1
  obtain ⟨d2, hds⟩ := List.forall_mem_cons.mp hds
  have d2 : v_iv (n_v vs 4) + (-4294967296) ≤ v_iv (n_v vs 3) ∧ v_iv (n_v vs 3) ≤ v_iv (n_v vs 4) + (-1) := d2
  have hf : fc_ok [(6, [23, 3], [1]), (23, [22, 1, 3], [42, 1, -1, -44]), (23, [20, 1, 3], [41, 1, -1, -44]), (23, [18, 1, 3], [28, 1, -1, -44]), (23, [16, 1, 3], [19, 1, -1, -44]), (23, [12, 1, 3], [11, 1, -1, -44]), (20, [11, 2, 3], [50, 1, 1, 1005, 1002, 1, 2, 1, 0, 3, 1, 2, 4, 7, 4, 3, 2, 1, 5, 0, 315, 1, 2]), (23, [10, 1, 3], [8, 1, -1, -44]), (23, [6, 1, 3], [0, 1, -1, -44]), (20, [5, 2, 3], [50, 1, 1, 1005, 1002, 1, 2, 1, 0, 3, 1, 2, 4, 7, 4, 3, 2, 1, 5, 0, 267, 1, 2]), (20, [4, 2], [30, 0, 1, 0, 0, -1, 3, 2005001]), (20, [4, 2], [30, 0, -1, 0, 0, 1, 3, 2005001]), (24, [0, 2], []), (20, [2, 22], [30, 2, 1, 1, 170, -1, 0, 0]), (102, [22], [237142198758023568227473377297792835283496928595231875152809132048206089502588928, 13170]), (23, [22, 1, 3], [42, 1, -1, -44]), (23, [20, 1, 3], [41, 1, -1, -44]), (23, [18, 1, 3], [28, 1, -1, -44]), (23, [16, 1, 3], [19, 1, -1, -44]), (23, [12, 1, 3], [11, 1, -1, -44]), (23, [10, 1, 3], [8, 1, -1, -44]), (23, [6, 1, 3], [0, 1, -1, -44]), (102, [20], [237142198758023568227473377297792835283496928595231875152809132048206089502588928, 13170]), (23, [20, 1, 3], [41, 1, -1, -44]), (23, [18, 1, 3], [28, 1, -1, -44]), (23, [16, 1, 3], [19, 1, -1, -44]), (23, [12, 1, 3], [11, 1, -1, -44]), (23, [10, 1, 3], [8, 1, -1, -44]), (23, [6, 1, 3], [0, 1, -1, -44]), (102, [18], [237142198758023568227473377297792835283496928595231875152809132048206089502588928, 13170]), (23, [18, 1, 3], [28, 1, -1, -44]), (23, [16, 1, 3], [19, 1, -1, -44]), (23, [12, 1, 3], [11, 1, -1, -44]), (23, [10, 1, 3], [8, 1, -1, -44]), (23, [6, 1, 3], [0, 1, -1, -44]), (102, [16], [237142198758023568227473377297792835283496928595231875152809132048206089502588928, 13170]), (23, [16, 1, 3], [19, 1, -1, -44]), (23, [12, 1, 3], [11, 1, -1, -44]), (23, [10, 1, 3], [8, 1, -1, -44]), (23, [6, 1, 3], [0, 1, -1, -44]), (102, [12], [237142198758023568227473377297792835283496928595231875152809132048206089502588928, 13170]), (23, [12, 1, 3], [11, 1, -1, -44]), (23, [10, 1, 3], [8, 1, -1, -44]), (23, [6, 1, 3], [0, 1, -1, -44]), (102, [10], [237142198758023568227473377297792835283496928595231875152809132048206089502588928, 13170]), (23, [10, 1, 3], [8, 1, -1, -44]), (23, [6, 1, 3], [0, 1, -1, -44]), (102, [6], [237142198758023568227473377297792835283496928595231875152809132048206089502588928, 13170]), (23, [6, 1, 3], [0, 1, -1, -44]), (7, [3, 4], [2])] ta ws vs := hf
  obtain ⟨f0, hf⟩ := fc_un (show (6 : Nat) < 100 from by decide) hf
  have f0 : v_iv (n_v vs 23) = v_iv (n_v vs 3) + 1 := f0
  obtain ⟨f1, hf⟩ := fc_un (show (23 : Nat) < 100 from by decide) hf
  have f1 : 1 * v_iv (n_v vs 22) + ((-1) * v_iv (n_v vs 1) + ((-44) * v_iv (n_v vs 3) + 0)) ≤ 42 := f1
  obtain ⟨f2, hf⟩ := fc_un (show (23 : Nat) < 100 from by decide) hf
  have f2 : 1 * v_iv (n_v vs 20) + ((-1) * v_iv (n_v vs 1) + ((-44) * v_iv (n_v vs 3) + 0)) ≤ 41 := f2
  obtain ⟨f3, hf⟩ := fc_un (show (23 : Nat) < 100 from by decide) hf
  have f3 : 1 * v_iv (n_v vs 18) + ((-1) * v_iv (n_v vs 1) + ((-44) * v_iv (n_v vs 3) + 0)) ≤ 28 := f3
  obtain ⟨f4, hf⟩ := fc_un (show (23 : Nat) < 100 from by decide) hf
  have f4 : 1 * v_iv (n_v vs 16) + ((-1) * v_iv (n_v vs 1) + ((-44) * v_iv (n_v vs 3) + 0)) ≤ 19 := f4
  obtain ⟨f5, hf⟩ := fc_un (show (23 : Nat) < 100 from by decide) hf
  have f5 : 1 * v_iv (n_v vs 12) + ((-1) * v_iv (n_v vs 1) + ((-44) * v_iv (n_v vs 3) + 0)) ≤ 11 := f5
  obtain ⟨f6, hf⟩ := fc_un (show (20 : Nat) < 100 from by decide) hf
  have f6 : v_iv (n_v vs 11) = w_ei ws (w_ar ws (n_v vs 2) 2) (((w_fi ws (n_v vs 2) 5 + 315) + v_iv (n_v vs 3))) := f6
  obtain ⟨f7, hf⟩ := fc_un (show (23 : Nat) < 100 from by decide) hf
  have f7 : 1 * v_iv (n_v vs 10) + ((-1) * v_iv (n_v vs 1) + ((-44) * v_iv (n_v vs 3) + 0)) ≤ 8 := f7
  obtain ⟨f8, hf⟩ := fc_un (show (23 : Nat) < 100 from by decide) hf
  have f8 : 1 * v_iv (n_v vs 6) + ((-1) * v_iv (n_v vs 1) + ((-44) * v_iv (n_v vs 3) + 0)) ≤ 0 := f8
  obtain ⟨f9, hf⟩ := fc_un (show (20 : Nat) < 100 from by decide) hf
  have f9 : v_iv (n_v vs 5) = w_ei ws (w_ar ws (n_v vs 2) 2) (((w_fi ws (n_v vs 2) 5 + 267) + v_iv (n_v vs 3))) := f9
  obtain ⟨f10, hf⟩ := fc_un (show (20 : Nat) < 100 from by decide) hf
  have f10 : 1 * v_iv (n_v vs 4) + ((-1) * w_el ws (w_ar ws (n_v vs 2) 2) (w_fi ws (n_v vs 2) 5 + 1).toNat + 0) ≤ 0 := f10
  obtain ⟨f11, hf⟩ := fc_un (show (20 : Nat) < 100 from by decide) hf
  have f11 : (-1) * v_iv (n_v vs 4) + (1 * w_el ws (w_ar ws (n_v vs 2) 2) (w_fi ws (n_v vs 2) 5 + 1).toNat + 0) ≤ 0 := f11
  obtain ⟨f12, hf⟩ := fc_un (show (24 : Nat) < 100 from by decide) hf
  have f12 : n_v vs 0 = n_v vs 2 := f12
  obtain ⟨f13, hf⟩ := fc_un (show (20 : Nat) < 100 from by decide) hf
  have f13 : 1 * w_fi ws (n_v vs 2) 170 + ((-1) * v_iv (n_v vs 22) + 0) ≤ 2 := f13
  obtain ⟨ta1, w1, le1, ⟨_, s1⟩, hf⟩ := fc_us (show ¬ (102 : Nat) < 100 from by decide) hf
  obtain ⟨f15, hf⟩ := fc_un (show (23 : Nat) < 100 from by decide) hf
  have f15 : 1 * v_iv (n_v vs 22) + ((-1) * v_iv (n_v vs 1) + ((-44) * v_iv (n_v vs 3) + 0)) ≤ 42 := f15
  obtain ⟨f16, hf⟩ := fc_un (show (23 : Nat) < 100 from by decide) hf
  have f16 : 1 * v_iv (n_v vs 20) + ((-1) * v_iv (n_v vs 1) + ((-44) * v_iv (n_v vs 3) + 0)) ≤ 41 := f16
  obtain ⟨f17, hf⟩ := fc_un (show (23 : Nat) < 100 from by decide) hf
  have f17 : 1 * v_iv (n_v vs 18) + ((-1) * v_iv (n_v vs 1) + ((-44) * v_iv (n_v vs 3) + 0)) ≤ 28 := f17
  obtain ⟨f18, hf⟩ := fc_un (show (23 : Nat) < 100 from by decide) hf
  have f18 : 1 * v_iv (n_v vs 16) + ((-1) * v_iv (n_v vs 1) + ((-44) * v_iv (n_v vs 3) + 0)) ≤ 19 := f18
  obtain ⟨f19, hf⟩ := fc_un (show (23 : Nat) < 100 from by decide) hf
  have f19 : 1 * v_iv (n_v vs 12) + ((-1) * v_iv (n_v vs 1) + ((-44) * v_iv (n_v vs 3) + 0)) ≤ 11 := f19
  obtain ⟨f20, hf⟩ := fc_un (show (23 : Nat) < 100 from by decide) hf
  have f20 : 1 * v_iv (n_v vs 10) + ((-1) * v_iv (n_v vs 1) + ((-44) * v_iv (n_v vs 3) + 0)) ≤ 8 := f20
  obtain ⟨f21, hf⟩ := fc_un (show (23 : Nat) < 100 from by decide) hf
  have f21 : 1 * v_iv (n_v vs 6) + ((-1) * v_iv (n_v vs 1) + ((-44) * v_iv (n_v vs 3) + 0)) ≤ 0 := f21
  obtain ⟨ta2, w2, le2, ⟨_, s2⟩, hf⟩ := fc_us (show ¬ (102 : Nat) < 100 from by decide) hf
  obtain ⟨f23, hf⟩ := fc_un (show (23 : Nat) < 100 from by decide) hf
  have f23 : 1 * v_iv (n_v vs 20) + ((-1) * v_iv (n_v vs 1) + ((-44) * v_iv (n_v vs 3) + 0)) ≤ 41 := f23
  obtain ⟨f24, hf⟩ := fc_un (show (23 : Nat) < 100 from by decide) hf
  have f24 : 1 * v_iv (n_v vs 18) + ((-1) * v_iv (n_v vs 1) + ((-44) * v_iv (n_v vs 3) + 0)) ≤ 28 := f24
  obtain ⟨f25, hf⟩ := fc_un (show (23 : Nat) < 100 from by decide) hf
  have f25 : 1 * v_iv (n_v vs 16) + ((-1) * v_iv (n_v vs 1) + ((-44) * v_iv (n_v vs 3) + 0)) ≤ 19 := f25
  obtain ⟨f26, hf⟩ := fc_un (show (23 : Nat) < 100 from by decide) hf
  have f26 : 1 * v_iv (n_v vs 12) + ((-1) * v_iv (n_v vs 1) + ((-44) * v_iv (n_v vs 3) + 0)) ≤ 11 := f26
  obtain ⟨f27, hf⟩ := fc_un (show (23 : Nat) < 100 from by decide) hf
  have f27 : 1 * v_iv (n_v vs 10) + ((-1) * v_iv (n_v vs 1) + ((-44) * v_iv (n_v vs 3) + 0)) ≤ 8 := f27
  obtain ⟨f28, hf⟩ := fc_un (show (23 : Nat) < 100 from by decide) hf
  have f28 : 1 * v_iv (n_v vs 6) + ((-1) * v_iv (n_v vs 1) + ((-44) * v_iv (n_v vs 3) + 0)) ≤ 0 := f28
  obtain ⟨ta3, w3, le3, ⟨_, s3⟩, hf⟩ := fc_us (show ¬ (102 : Nat) < 100 from by decide) hf
  obtain ⟨f30, hf⟩ := fc_un (show (23 : Nat) < 100 from by decide) hf
  have f30 : 1 * v_iv (n_v vs 18) + ((-1) * v_iv (n_v vs 1) + ((-44) * v_iv (n_v vs 3) + 0)) ≤ 28 := f30
  obtain ⟨f31, hf⟩ := fc_un (show (23 : Nat) < 100 from by decide) hf
  have f31 : 1 * v_iv (n_v vs 16) + ((-1) * v_iv (n_v vs 1) + ((-44) * v_iv (n_v vs 3) + 0)) ≤ 19 := f31
  obtain ⟨f32, hf⟩ := fc_un (show (23 : Nat) < 100 from by decide) hf
  have f32 : 1 * v_iv (n_v vs 12) + ((-1) * v_iv (n_v vs 1) + ((-44) * v_iv (n_v vs 3) + 0)) ≤ 11 := f32
  obtain ⟨f33, hf⟩ := fc_un (show (23 : Nat) < 100 from by decide) hf
  have f33 : 1 * v_iv (n_v vs 10) + ((-1) * v_iv (n_v vs 1) + ((-44) * v_iv (n_v vs 3) + 0)) ≤ 8 := f33
  obtain ⟨f34, hf⟩ := fc_un (show (23 : Nat) < 100 from by decide) hf
  have f34 : 1 * v_iv (n_v vs 6) + ((-1) * v_iv (n_v vs 1) + ((-44) * v_iv (n_v vs 3) + 0)) ≤ 0 := f34
  obtain ⟨ta4, w4, le4, ⟨_, s4⟩, hf⟩ := fc_us (show ¬ (102 : Nat) < 100 from by decide) hf
  obtain ⟨f36, hf⟩ := fc_un (show (23 : Nat) < 100 from by decide) hf
  have f36 : 1 * v_iv (n_v vs 16) + ((-1) * v_iv (n_v vs 1) + ((-44) * v_iv (n_v vs 3) + 0)) ≤ 19 := f36
  obtain ⟨f37, hf⟩ := fc_un (show (23 : Nat) < 100 from by decide) hf
  have f37 : 1 * v_iv (n_v vs 12) + ((-1) * v_iv (n_v vs 1) + ((-44) * v_iv (n_v vs 3) + 0)) ≤ 11 := f37
  obtain ⟨f38, hf⟩ := fc_un (show (23 : Nat) < 100 from by decide) hf
  have f38 : 1 * v_iv (n_v vs 10) + ((-1) * v_iv (n_v vs 1) + ((-44) * v_iv (n_v vs 3) + 0)) ≤ 8 := f38
  obtain ⟨f39, hf⟩ := fc_un (show (23 : Nat) < 100 from by decide) hf
  have f39 : 1 * v_iv (n_v vs 6) + ((-1) * v_iv (n_v vs 1) + ((-44) * v_iv (n_v vs 3) + 0)) ≤ 0 := f39
  obtain ⟨ta5, w5, le5, ⟨_, s5⟩, hf⟩ := fc_us (show ¬ (102 : Nat) < 100 from by decide) hf
  obtain ⟨f41, hf⟩ := fc_un (show (23 : Nat) < 100 from by decide) hf
  have f41 : 1 * v_iv (n_v vs 12) + ((-1) * v_iv (n_v vs 1) + ((-44) * v_iv (n_v vs 3) + 0)) ≤ 11 := f41
  obtain ⟨f42, hf⟩ := fc_un (show (23 : Nat) < 100 from by decide) hf
  have f42 : 1 * v_iv (n_v vs 10) + ((-1) * v_iv (n_v vs 1) + ((-44) * v_iv (n_v vs 3) + 0)) ≤ 8 := f42
  obtain ⟨f43, hf⟩ := fc_un (show (23 : Nat) < 100 from by decide) hf
  have f43 : 1 * v_iv (n_v vs 6) + ((-1) * v_iv (n_v vs 1) + ((-44) * v_iv (n_v vs 3) + 0)) ≤ 0 := f43
  obtain ⟨ta6, w6, le6, ⟨_, s6⟩, hf⟩ := fc_us (show ¬ (102 : Nat) < 100 from by decide) hf
  obtain ⟨f45, hf⟩ := fc_un (show (23 : Nat) < 100 from by decide) hf
  have f45 : 1 * v_iv (n_v vs 10) + ((-1) * v_iv (n_v vs 1) + ((-44) * v_iv (n_v vs 3) + 0)) ≤ 8 := f45
  obtain ⟨f46, hf⟩ := fc_un (show (23 : Nat) < 100 from by decide) hf
  have f46 : 1 * v_iv (n_v vs 6) + ((-1) * v_iv (n_v vs 1) + ((-44) * v_iv (n_v vs 3) + 0)) ≤ 0 := f46
  obtain ⟨ta7, w7, le7, ⟨_, s7⟩, hf⟩ := fc_us (show ¬ (102 : Nat) < 100 from by decide) hf
  obtain ⟨f48, hf⟩ := fc_un (show (23 : Nat) < 100 from by decide) hf
  have f48 : 1 * v_iv (n_v vs 6) + ((-1) * v_iv (n_v vs 1) + ((-44) * v_iv (n_v vs 3) + 0)) ≤ 0 := f48
  obtain ⟨f49, hf⟩ := fc_un (show (7 : Nat) < 100 from by decide) hf
  have f49 : v_iv (n_v vs 3) < v_iv (n_v vs 4) := f49
  have q2 : n_v vs 2 = n_v vs 0 := f12.symm
  rw [q2] at f6
  rw [q2] at f9
  rw [q2] at f10
  rw [q2] at f11
  rw [q2] at f13
  have cr_0_2 : ta (w_ar ws (n_v vs 0) 2) = some 152 := tv_rg (th_fd hD hth r0 (g := GG_150) rfl (k := 2) (t := (2, 0, 0, [152])) rfl rfl)
  have br_0_2_F5_1_0 : w_ei ws (w_ar ws (n_v vs 0) 2) (w_fi ws (n_v vs 0) 5 + 1) = w_el ws (w_ar ws (n_v vs 0) 2) (w_fi ws (n_v vs 0) 5 + 1).toNat := rfl
  have kz_0_170 : 0 ≤ w_fi ws (n_v vs 0) 170 ∧ w_fi ws (n_v vs 0) 170 ≤ 100000000 := tv_rng (th_fd hD hth r0 (g := GG_150) rfl (k := 170) (t := (0, 0, 100000000, [])) rfl rfl)
  have nf0 : fc_1 (20, [2, 1, 23], [30, 0, 1, 1, 170, -1, 0, 0, -44, 0, 0]) ws (vs) := by
    refine ⟨fun n hn => ?_, ?_⟩
    · have hn : n ∈ [2, 1, 23] := hn
      rw [hl]
      simp only [List.mem_cons, List.not_mem_nil, or_false] at hn
      show n < 24; omega
    · show 1 * w_fi ws (n_v vs 2) 170 + ((-1) * v_iv (n_v vs 1) + ((-44) * v_iv (n_v vs 23) + 0)) ≤ 0
      rw [q2]
      omega
  refine ⟨(fun _ h => (by cases h)), [], trivial, ?_, (fun _ h => (by cases h))⟩
  rw [List.append_nil]
  exact List.forall_mem_cons.mpr ⟨⟨show (20 : Nat) < 100 from by decide, nf0⟩, (fun _ h => (by cases h))⟩
def n_Mo_writeEdges_an : List an_T := [(2, [(0, (2, 0, 0, [150])), (1, (0, 0, 48, []))], [], (0, 0), [(0, 0, 99998), (1, 3, 48), (0, 0, 100000)], [], [], [(2, 0, 0, [150]), (0, 0, 99997888, [])], 0, [], [(20, [2, 1, 3], [30, 0, 1, 1, 170, -1, 0, 0, -44, 0, 0]), (24, [0, 2], [])])]
def t_Mo_writeEdges_ct : ct_L := [(1, 394, e_Mo_tail), (1, 398, e_Mo_head), (1, 401, e_Mo_edges), (1, 553, e_Mo_one), (1, 737, e_Mo_weight), (1, 1293, e_Mo_writeNode), (1, 1298, e_Mo_writeNumber), (118, 1290, e_Mo_write_at_s5019), (118, 1290, e_Mo_write_at_s5020), (193, 1290, e_Mo_write_at_s5021), (241, 1290, e_Mo_write_at_s5045), (262, 1290, e_Mo_write_at_s5015), (1000001, 1301, en_ro [] (2, 0, 0, [5045])), (1000001, 1303, en_ro [] (2, 0, 0, [5015])), (1000001, 1314, en_ro [] (2, 0, 0, [5019])), (1000001, 1316, en_ro [] (2, 0, 0, [5020])), (1000001, 1318, en_ro [] (2, 0, 0, [5021]))]
set_option maxRecDepth 100000 in
theorem c_Mo_writeEdges {l : Launch} {D : va_G} {kA : Nat → ClassId} (h_Mo_edges : ct_ok l D kA GG y_Mo_edges z_Mo_edges e_Mo_edges) (h_Mo_head : ct_ok l D kA GG y_Mo_head z_Mo_head e_Mo_head) (h_Mo_one : ct_ok l D kA GG y_Mo_one z_Mo_one e_Mo_one) (h_Mo_tail : ct_ok l D kA GG y_Mo_tail z_Mo_tail e_Mo_tail) (h_Mo_weight : ct_ok l D kA GG y_Mo_weight z_Mo_weight e_Mo_weight) (h_Mo_writeNode : ct_ok l D kA GG y_Mo_writeNode z_Mo_writeNode e_Mo_writeNode) (h_Mo_writeNumber : ct_ok l D kA GG y_Mo_writeNumber z_Mo_writeNumber e_Mo_writeNumber) (h_Mo_write_at_s5015 : ct_ok l D kA GG y_Mo_write_at_s5015 z_Mo_write_at_s5015 e_Mo_write_at_s5015) (h_Mo_write_at_s5019 : ct_ok l D kA GG y_Mo_write_at_s5019 z_Mo_write_at_s5019 e_Mo_write_at_s5019) (h_Mo_write_at_s5020 : ct_ok l D kA GG y_Mo_write_at_s5020 z_Mo_write_at_s5020 e_Mo_write_at_s5020) (h_Mo_write_at_s5021 : ct_ok l D kA GG y_Mo_write_at_s5021 z_Mo_write_at_s5021 e_Mo_write_at_s5021) (h_Mo_write_at_s5045 : ct_ok l D kA GG y_Mo_write_at_s5045 z_Mo_write_at_s5045 e_Mo_write_at_s5045) : ct_ok l D kA GG y_Mo_writeEdges z_Mo_writeEdges e_Mo_writeEdges := chk_all_ok (FT := []) (PT := []) (CT := t_Mo_writeEdges_ct) (KT := []) (NT := []) (AN := n_Mo_writeEdges_an) (OT := [o_Mo_writeEdges_0, o_Mo_writeEdges_1, o_Mo_writeEdges_2, o_Mo_writeEdges_3, o_Mo_writeEdges_4, o_Mo_writeEdges_5, o_Mo_writeEdges_6, o_Mo_writeEdges_7, o_Mo_writeEdges_8, o_Mo_writeEdges_9, o_Mo_writeEdges_10, o_Mo_writeEdges_11]) 3 340 (List.forall_mem_cons.mpr ⟨oo_Mo_writeEdges_0, List.forall_mem_cons.mpr ⟨oo_Mo_writeEdges_1, List.forall_mem_cons.mpr ⟨oo_Mo_writeEdges_2, List.forall_mem_cons.mpr ⟨oo_Mo_writeEdges_3, List.forall_mem_cons.mpr ⟨oo_Mo_writeEdges_4, List.forall_mem_cons.mpr ⟨oo_Mo_writeEdges_5, List.forall_mem_cons.mpr ⟨oo_Mo_writeEdges_6, List.forall_mem_cons.mpr ⟨oo_Mo_writeEdges_7, List.forall_mem_cons.mpr ⟨oo_Mo_writeEdges_8, List.forall_mem_cons.mpr ⟨oo_Mo_writeEdges_9, List.forall_mem_cons.mpr ⟨oo_Mo_writeEdges_10, List.forall_mem_cons.mpr ⟨oo_Mo_writeEdges_11, List.forall_mem_nil _⟩⟩⟩⟩⟩⟩⟩⟩⟩⟩⟩⟩) (by decide +kernel) ⟨List.forall_mem_nil _, List.forall_mem_nil _, List.forall_mem_cons.mpr ⟨cl_virtual (y := y_Mo_tail) (ci := 13) rfl rfl ⟨_, _, rfl⟩ (by decide +kernel) h_Mo_tail wm_3045 wm_9 wm_3042 wm_3044 wv_13_8 ⟨by decide, by decide, by decide +kernel⟩ (by decide), List.forall_mem_cons.mpr ⟨cl_virtual (y := y_Mo_head) (ci := 13) rfl rfl ⟨_, _, rfl⟩ (by decide +kernel) h_Mo_head wm_3049 wm_9 wm_3046 wm_3048 wv_13_9 ⟨by decide, by decide, by decide +kernel⟩ (by decide), List.forall_mem_cons.mpr ⟨cl_virtual (y := y_Mo_edges) (ci := 13) rfl rfl ⟨_, _, rfl⟩ (by decide +kernel) h_Mo_edges wm_3037 wm_9 wm_3034 wm_3036 wv_13_6 ⟨by decide, by decide, by decide +kernel⟩ (by decide), List.forall_mem_cons.mpr ⟨cl_virtual (y := y_Mo_one) (ci := 13) rfl rfl ⟨_, _, rfl⟩ (by decide +kernel) h_Mo_one wm_3299 wm_9 wm_3296 wm_3298 wv_16_15 ⟨by decide, by decide, by decide +kernel⟩ (by decide), List.forall_mem_cons.mpr ⟨cl_virtual (y := y_Mo_weight) (ci := 13) rfl rfl ⟨_, _, rfl⟩ (by decide +kernel) h_Mo_weight wm_3339 wm_9 wm_3336 wm_3338 wv_17_7 ⟨by decide, by decide, by decide +kernel⟩ (by decide), List.forall_mem_cons.mpr ⟨cl_virtual (y := y_Mo_writeNode) (ci := 13) rfl rfl ⟨_, _, rfl⟩ (by decide +kernel) h_Mo_writeNode wm_3918 wm_9 wm_3915 wm_3917 wv_24_9 ⟨by decide, by decide, by decide +kernel⟩ (by decide), List.forall_mem_cons.mpr ⟨cl_virtual (y := y_Mo_writeNumber) (ci := 13) rfl rfl ⟨_, _, rfl⟩ (by decide +kernel) h_Mo_writeNumber wm_3927 wm_9 wm_3924 wm_3926 wv_24_11 ⟨by decide, by decide, by decide +kernel⟩ (by decide), List.forall_mem_cons.mpr ⟨cl_virtual (y := y_Mo_write_at_s5019) (ci := 13) rfl rfl ⟨_, _, rfl⟩ (by decide +kernel) h_Mo_write_at_s5019 wm_3910 wm_9 wm_3907 wm_3909 wv_24_7 ⟨by decide, by decide, by decide +kernel⟩ (by decide), List.forall_mem_cons.mpr ⟨cl_virtual (y := y_Mo_write_at_s5020) (ci := 13) rfl rfl ⟨_, _, rfl⟩ (by decide +kernel) h_Mo_write_at_s5020 wm_3910 wm_9 wm_3907 wm_3909 wv_24_7 ⟨by decide, by decide, by decide +kernel⟩ (by decide), List.forall_mem_cons.mpr ⟨cl_virtual (y := y_Mo_write_at_s5021) (ci := 13) rfl rfl ⟨_, _, rfl⟩ (by decide +kernel) h_Mo_write_at_s5021 wm_3910 wm_9 wm_3907 wm_3909 wv_24_7 ⟨by decide, by decide, by decide +kernel⟩ (by decide), List.forall_mem_cons.mpr ⟨cl_virtual (y := y_Mo_write_at_s5045) (ci := 13) rfl rfl ⟨_, _, rfl⟩ (by decide +kernel) h_Mo_write_at_s5045 wm_3910 wm_9 wm_3907 wm_3909 wv_24_7 ⟨by decide, by decide, by decide +kernel⟩ (by decide), List.forall_mem_cons.mpr ⟨cl_virtual (y := y_Mo_write_at_s5015) (ci := 13) rfl rfl ⟨_, _, rfl⟩ (by decide +kernel) h_Mo_write_at_s5015 wm_3910 wm_9 wm_3907 wm_3909 wv_24_7 ⟨by decide, by decide, by decide +kernel⟩ (by decide), List.forall_mem_cons.mpr ⟨cl_ldcw (own := "DrawingHouseModel") (idx := 1301) (i := 45) (tx := "]") (by decide +kernel) (by decide +kernel) (by decide +kernel), List.forall_mem_cons.mpr ⟨cl_ldcw (own := "DrawingHouseModel") (idx := 1303) (i := 15) (tx := ";\n") (by decide +kernel) (by decide +kernel) (by decide +kernel), List.forall_mem_cons.mpr ⟨cl_ldcw (own := "DrawingHouseModel") (idx := 1314) (i := 19) (tx := " > ") (by decide +kernel) (by decide +kernel) (by decide +kernel), List.forall_mem_cons.mpr ⟨cl_ldcw (own := "DrawingHouseModel") (idx := 1316) (i := 20) (tx := " - ") (by decide +kernel) (by decide +kernel) (by decide +kernel), List.forall_mem_cons.mpr ⟨cl_ldcw (own := "DrawingHouseModel") (idx := 1318) (i := 21) (tx := " [weight=") (by decide +kernel) (by decide +kernel) (by decide +kernel), List.forall_mem_nil _⟩⟩⟩⟩⟩⟩⟩⟩⟩⟩⟩⟩⟩⟩⟩⟩⟩, List.forall_mem_nil _, List.forall_mem_nil _, GG_pl⟩ (by decide +kernel)
