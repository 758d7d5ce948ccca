set_option maxHeartbeats 4000000 in
theorem vc_Mo_stepTo_30_r0 (x1 : Int) (x2 : Int) (x3 : Int) (x4 : Int) (x5 : Int) (x6 : Int) (x7 : Int) (x8 : Int) (x9 : Int) (x11 : Int) (x12 : Int) (x15 : Int) (x16 : Int) (x17 : Int) (x19 : Int) (x20 : Int) (wide_0 : Int) (tall_0 : Int) (k1 : 0 ≤ x1 ∧ x1 ≤ 5999) (k2 : 0 ≤ x2 ∧ x2 ≤ 0) (k3 : 1 ≤ x3 ∧ x3 ≤ 6000) (k4 : 0 ≤ x4 ∧ x4 ≤ 5999) (k5 : 1 ≤ x5 ∧ x5 ≤ 1) (k6 : 1 ≤ x6 ∧ x6 ≤ 5999) (k7 : 0 ≤ x7 ∧ x7 ≤ 5999) (k8 : 0 ≤ x8 ∧ x8 ≤ 0) (k9 : 0 ≤ x9 ∧ x9 ≤ 5999) (k11 : 1 ≤ x11 ∧ x11 ≤ 1) (k12 : 1 ≤ x12 ∧ x12 ≤ 5999) (k15 : 1 ≤ x15 ∧ x15 ≤ 6000) (k16 : 1 ≤ x16 ∧ x16 ≤ 1) (k17 : 0 ≤ x17 ∧ x17 ≤ 5999) (k19 : 0 ≤ x19 ∧ x19 ≤ 35994000) (k20 : 1 ≤ x20 ∧ x20 ≤ 35999999) (d0 : x6 + 0 ≤ x20 ∧ x20 ≤ x6 + 35994000) (d1 : x12 + (-4294967296) ≤ x20 ∧ x20 ≤ x12 + 35994000) (d2 : x4 + 1 ≤ x20 ∧ x20 ≤ x4 + 35994001) (d3 : x3 + (-4294967294) ≤ x20 ∧ x20 ≤ x3 + 35994000) (d4 : x19 + 1 ≤ x20 ∧ x20 ≤ x19 + 5999) (d5 : x17 + (-4294967296) ≤ x9 ∧ x9 ≤ x17 + 0) (d6 : x15 + (-1) ≤ x17 ∧ x17 ≤ x15 + (-1)) (d7 : x12 + (-4294967296) ≤ x6 ∧ x6 ≤ x12 + 0) (d8 : x3 + (-1) ≤ x12 ∧ x12 ≤ x3 + (-1)) (d9 : x7 + 0 ≤ x9 ∧ x9 ≤ x7 + 0) (d10 : x4 + 1 ≤ x6 ∧ x6 ≤ x4 + 1) (d11 : x3 + (-4294967294) ≤ x6 ∧ x6 ≤ x3 + 0) (d12 : x3 + (-4294967295) ≤ x4 ∧ x4 ≤ x3 + (-1)) (f0 : x20 = x19 + x6) (f1 : x19 = x9 * x3) (g2 : x3 = wide_0) (f3 : x17 = x15 - x16) (g4 : x15 = tall_0) (f5 : x12 = x3 - x11) (f6 : x9 = x7 + x8) (f7 : ((x2 = 1) ∧ (x8 = 1)) ∨ (((x2 = 3) ∧ (x8 = (-1))) ∨ ((x2 ≠ 1) ∧ ((x2 ≠ 3) ∧ (x8 = 0))))) (f8 : x7 = Int.tdiv (x1) (x3)) (f9 : x6 = x4 + x5) (f10 : ((x2 = 0) ∧ (x5 = 1)) ∨ (((x2 = 2) ∧ (x5 = (-1))) ∨ ((x2 ≠ 0) ∧ ((x2 ≠ 2) ∧ (x5 = 0))))) (f11 : x4 = Int.tmod (x1) (x3)) (f12 : GRX (wide_0) (tall_0)) (f13 : (0 ≤ x1) ∧ ((x1 + 1) ≤ (wide_0 * tall_0))) (kz_0_146 : (-2147483648) ≤ wide_0 ∧ wide_0 ≤ 2147483647) (kz_0_147 : (-2147483648) ≤ tall_0 ∧ tall_0 ≤ 2147483647) : 1 ≤ x20 ∧ x20 ≤ 5999 := by
  first
    | omega
    | (have g := gok_bd ‹GRX _ _›; omega)
    | (have g := gok_bd ‹GRX _ _›
       have c := cell_ix (W := x3) (T := x15) (x := x6) (y := x9) (p := x20) (by omega) (by omega) (by omega) (by omega) (by omega) (by rw [‹x20 = x19 + x6›, ‹x19 = x9 * x3›])
       have e3 : x3 = wide_0 := by assumption
       have e15 : x15 = tall_0 := by assumption
       have g3 := ‹GRX _ _›.2.2
       rw [e3, e15] at c
       omega)
def o_Mo_stepTo_30 : or_T := (73, 22, [(0, (2, 0, 0, [150])), (1, (0, 0, 5999, [])), (2, (0, 0, 0, [])), (3, (0, 1, 6000, [])), (4, (0, 0, 5999, [])), (5, (0, 1, 1, [])), (6, (0, 1, 5999, [])), (7, (0, 0, 5999, [])), (8, (0, 0, 0, [])), (9, (0, 0, 5999, [])), (11, (0, 1, 1, [])), (12, (0, 1, 5999, [])), (15, (0, 1, 6000, [])), (16, (0, 1, 1, [])), (17, (0, 0, 5999, [])), (19, (0, 0, 35994000, [])), (20, (0, 1, 35999999, []))], [(1, [20, 19, 6], []), (3, [19, 9, 3], []), (9, [3, 0], [146]), (2, [17, 15, 16], []), (9, [15, 0], [147]), (2, [12, 3, 11], []), (1, [9, 7, 8], []), (20, [2, 8], [50, 0, 0, 3, 14, 2, 6, 1, 2, 1, 0, 0, 1, 1, 2, 1, 1, 0, 1, 3, 14, 2, 6, 1, 2, 1, 0, 0, 3, 1, 2, 1, 1, 0, -1, 2, 6, 7, 2, 1, 0, 0, 1, 2, 6, 7, 2, 1, 0, 0, 3, 1, 2, 1, 1, 0, 0]), (4, [7, 1, 3], []), (1, [6, 4, 5], []), (20, [2, 5], [50, 0, 0, 3, 14, 2, 6, 1, 2, 1, 0, 0, 0, 1, 2, 1, 1, 0, 1, 3, 14, 2, 6, 1, 2, 1, 0, 0, 2, 1, 2, 1, 1, 0, -1, 2, 6, 7, 2, 1, 0, 0, 0, 2, 6, 7, 2, 1, 0, 0, 2, 1, 2, 1, 1, 0, 0]), (5, [4, 1, 3], []), (20, [0], [60, 2, 0, 418, 146, 147]), (20, [1, 0], [50, 2, 0, 1146, 1147, 2, 6, 0, 2, 0, 0, 1, 0, 0, 6, 4, 2, 1, 0, 0, 1, 6, 3, 2, 1, 146, 2, 1, 147])], [(20, (0, 1, 5999, []))], [], [], [], [(20, 6, 0, 35994000), (20, 12, -4294967296, 35994000), (20, 4, 1, 35994001), (20, 3, -4294967294, 35994000), (20, 19, 1, 5999), (9, 17, -4294967296, 0), (17, 15, -1, -1), (6, 12, -4294967296, 0), (12, 3, -1, -1), (9, 7, 0, 0), (6, 4, 1, 1), (6, 3, -4294967294, 0), (4, 3, -4294967295, -1)])
theorem oo_Mo_stepTo_30 {kA : Nat → ClassId} : or_ok PRD kA GG o_Mo_stepTo_30 := by
  intro A ta ws vs hD hth hl hk hds hf
  have hl : vs.length = 22 := hl
  have hk : ∀ q ∈ ([(0, (2, 0, 0, [150])), (1, (0, 0, 5999, [])), (2, (0, 0, 0, [])), (3, (0, 1, 6000, [])), (4, (0, 0, 5999, [])), (5, (0, 1, 1, [])), (6, (0, 1, 5999, [])), (7, (0, 0, 5999, [])), (8, (0, 0, 0, [])), (9, (0, 0, 5999, [])), (11, (0, 1, 1, [])), (12, (0, 1, 5999, [])), (15, (0, 1, 6000, [])), (16, (0, 1, 1, [])), (17, (0, 0, 5999, [])), (19, (0, 0, 35994000, [])), (20, (0, 1, 35999999, []))] : List (Nat × tv_T)), tv_ok ta q.2 (n_v vs q.1) := hk
  obtain ⟨t0, hk⟩ := List.forall_mem_cons.mp hk
  have t0 : tv_ok ta (2, 0, 0, [150]) (n_v vs 0) := t0
  have r0 : ta (v_ad (n_v vs 0)) = some 150 := tv_rg t0
  obtain ⟨t1, hk⟩ := List.forall_mem_cons.mp hk
  have t1 : tv_ok ta (0, 0, 5999, []) (n_v vs 1) := t1
  have k1 : 0 ≤ v_iv (n_v vs 1) ∧ v_iv (n_v vs 1) ≤ 5999 := tv_rng t1
  obtain ⟨t2, hk⟩ := List.forall_mem_cons.mp hk
  have t2 : tv_ok ta (0, 0, 0, []) (n_v vs 2) := t2
  have k2 : 0 ≤ v_iv (n_v vs 2) ∧ v_iv (n_v vs 2) ≤ 0 := tv_rng t2
  obtain ⟨t3, hk⟩ := List.forall_mem_cons.mp hk
  have t3 : tv_ok ta (0, 1, 6000, []) (n_v vs 3) := t3
  have k3 : 1 ≤ v_iv (n_v vs 3) ∧ v_iv (n_v vs 3) ≤ 6000 := tv_rng t3
  obtain ⟨t4, hk⟩ := List.forall_mem_cons.mp hk
  have t4 : tv_ok ta (0, 0, 5999, []) (n_v vs 4) := t4
  have k4 : 0 ≤ v_iv (n_v vs 4) ∧ v_iv (n_v vs 4) ≤ 5999 := tv_rng t4
  obtain ⟨t5, hk⟩ := List.forall_mem_cons.mp hk
  have t5 : tv_ok ta (0, 1, 1, []) (n_v vs 5) := t5
  have k5 : 1 ≤ v_iv (n_v vs 5) ∧ v_iv (n_v vs 5) ≤ 1 := tv_rng t5
  obtain ⟨t6, hk⟩ := List.forall_mem_cons.mp hk
  have t6 : tv_ok ta (0, 1, 5999, []) (n_v vs 6) := t6
  have k6 : 1 ≤ v_iv (n_v vs 6) ∧ v_iv (n_v vs 6) ≤ 5999 := tv_rng t6
  obtain ⟨t7, hk⟩ := List.forall_mem_cons.mp hk
  have t7 : tv_ok ta (0, 0, 5999, []) (n_v vs 7) := t7
  have k7 : 0 ≤ v_iv (n_v vs 7) ∧ v_iv (n_v vs 7) ≤ 5999 := tv_rng t7
  obtain ⟨t8, hk⟩ := List.forall_mem_cons.mp hk
  have t8 : tv_ok ta (0, 0, 0, []) (n_v vs 8) := t8
  have k8 : 0 ≤ v_iv (n_v vs 8) ∧ v_iv (n_v vs 8) ≤ 0 := tv_rng t8
  obtain ⟨t9, hk⟩ := List.forall_mem_cons.mp hk
  have t9 : tv_ok ta (0, 0, 5999, []) (n_v vs 9) := t9
  have k9 : 0 ≤ v_iv (n_v vs 9) ∧ v_iv (n_v vs 9) ≤ 5999 := tv_rng t9
  obtain ⟨t11, hk⟩ := List.forall_mem_cons.mp hk
  have t11 : tv_ok ta (0, 1, 1, []) (n_v vs 11) := t11
  have k11 : 1 ≤ v_iv (n_v vs 11) ∧ v_iv (n_v vs 11) ≤ 1 := tv_rng t11
  obtain ⟨t12, hk⟩ := List.forall_mem_cons.mp hk
  have t12 : tv_ok ta (0, 1, 5999, []) (n_v vs 12) := t12
  have k12 : 1 ≤ v_iv (n_v vs 12) ∧ v_iv (n_v vs 12) ≤ 5999 := tv_rng t12
  obtain ⟨t15, hk⟩ := List.forall_mem_cons.mp hk
  have t15 : tv_ok ta (0, 1, 6000, []) (n_v vs 15) := t15
  have k15 : 1 ≤ v_iv (n_v vs 15) ∧ v_iv (n_v vs 15) ≤ 6000 := tv_rng t15
  obtain ⟨t16, hk⟩ := List.forall_mem_cons.mp hk
  have t16 : tv_ok ta (0, 1, 1, []) (n_v vs 16) := t16
  have k16 : 1 ≤ v_iv (n_v vs 16) ∧ v_iv (n_v vs 16) ≤ 1 := tv_rng t16
  obtain ⟨t17, hk⟩ := List.forall_mem_cons.mp hk
  have t17 : tv_ok ta (0, 0, 5999, []) (n_v vs 17) := t17
  have k17 : 0 ≤ v_iv (n_v vs 17) ∧ v_iv (n_v vs 17) ≤ 5999 := tv_rng t17
  obtain ⟨t19, hk⟩ := List.forall_mem_cons.mp hk
  have t19 : tv_ok ta (0, 0, 35994000, []) (n_v vs 19) := t19
  have k19 : 0 ≤ v_iv (n_v vs 19) ∧ v_iv (n_v vs 19) ≤ 35994000 := tv_rng t19
  obtain ⟨t20, hk⟩ := List.forall_mem_cons.mp hk
  have t20 : tv_ok ta (0, 1, 35999999, []) (n_v vs 20) := t20
  have k20 : 1 ≤ v_iv (n_v vs 20) ∧ v_iv (n_v vs 20) ≤ 35999999 := tv_rng t20
  have hds : ∀ q ∈ ([(20, 6, 0, 35994000), (20, 12, -4294967296, 35994000), (20, 4, 1, 35994001), (20, 3, -4294967294, 35994000), (20, 19, 1, 5999), (9, 17, -4294967296, 0), (17, 15, -1, -1), (6, 12, -4294967296, 0), (12, 3, -1, -1), (9, 7, 0, 0), (6, 4, 1, 1), (6, 3, -4294967294, 0), (4, 3, -4294967295, -1)] : List of_T), n_iv vs q.2.1 + q.2.2.1 ≤ n_iv vs q.1 ∧ n_iv vs q.1 ≤ n_iv vs q.2.1 + q.2.2.2 := hds
  obtain ⟨d0, hds⟩ := List.forall_mem_cons.mp hds
  have d0 : v_iv (n_v vs 6) + 0 ≤ v_iv (n_v vs 20) ∧ v_iv (n_v vs 20) ≤ v_iv (n_v vs 6) + 35994000 := d0
  obtain ⟨d1, hds⟩ := List.forall_mem_cons.mp hds
  have d1 : v_iv (n_v vs 12) + (-4294967296) ≤ v_iv (n_v vs 20) ∧ v_iv (n_v vs 20) ≤ v_iv (n_v vs 12) + 35994000 := d1
  obtain ⟨d2, hds⟩ := List.forall_mem_cons.mp hds
  have d2 : v_iv (n_v vs 4) + 1 ≤ v_iv (n_v vs 20) ∧ v_iv (n_v vs 20) ≤ v_iv (n_v vs 4) + 35994001 := d2
  obtain ⟨d3, hds⟩ := List.forall_mem_cons.mp hds
  have d3 : v_iv (n_v vs 3) + (-4294967294) ≤ v_iv (n_v vs 20) ∧ v_iv (n_v vs 20) ≤ v_iv (n_v vs 3) + 35994000 := d3
  obtain ⟨d4, hds⟩ := List.forall_mem_cons.mp hds
  have d4 : v_iv (n_v vs 19) + 1 ≤ v_iv (n_v vs 20) ∧ v_iv (n_v vs 20) ≤ v_iv (n_v vs 19) + 5999 := d4
  obtain ⟨d5, hds⟩ := List.forall_mem_cons.mp hds
  have d5 : v_iv (n_v vs 17) + (-4294967296) ≤ v_iv (n_v vs 9) ∧ v_iv (n_v vs 9) ≤ v_iv (n_v vs 17) + 0 := d5
  obtain ⟨d6, hds⟩ := List.forall_mem_cons.mp hds
  have d6 : v_iv (n_v vs 15) + (-1) ≤ v_iv (n_v vs 17) ∧ v_iv (n_v vs 17) ≤ v_iv (n_v vs 15) + (-1) := d6
  obtain ⟨d7, hds⟩ := List.forall_mem_cons.mp hds
  have d7 : v_iv (n_v vs 12) + (-4294967296) ≤ v_iv (n_v vs 6) ∧ v_iv (n_v vs 6) ≤ v_iv (n_v vs 12) + 0 := d7
  obtain ⟨d8, hds⟩ := List.forall_mem_cons.mp hds
  have d8 : v_iv (n_v vs 3) + (-1) ≤ v_iv (n_v vs 12) ∧ v_iv (n_v vs 12) ≤ v_iv (n_v vs 3) + (-1) := d8
  obtain ⟨d9, hds⟩ := List.forall_mem_cons.mp hds
  have d9 : v_iv (n_v vs 7) + 0 ≤ v_iv (n_v vs 9) ∧ v_iv (n_v vs 9) ≤ v_iv (n_v vs 7) + 0 := d9
  obtain ⟨d10, hds⟩ := List.forall_mem_cons.mp hds
  have d10 : v_iv (n_v vs 4) + 1 ≤ v_iv (n_v vs 6) ∧ v_iv (n_v vs 6) ≤ v_iv (n_v vs 4) + 1 := d10
  obtain ⟨d11, hds⟩ := List.forall_mem_cons.mp hds
  have d11 : v_iv (n_v vs 3) + (-4294967294) ≤ v_iv (n_v vs 6) ∧ v_iv (n_v vs 6) ≤ v_iv (n_v vs 3) + 0 := d11
  obtain ⟨d12, hds⟩ := List.forall_mem_cons.mp hds
  have d12 : v_iv (n_v vs 3) + (-4294967295) ≤ v_iv (n_v vs 4) ∧ v_iv (n_v vs 4) ≤ v_iv (n_v vs 3) + (-1) := d12
  have hf : fc_ok PRD [(1, [20, 19, 6], []), (3, [19, 9, 3], []), (9, [3, 0], [146]), (2, [17, 15, 16], []), (9, [15, 0], [147]), (2, [12, 3, 11], []), (1, [9, 7, 8], []), (20, [2, 8], [50, 0, 0, 3, 14, 2, 6, 1, 2, 1, 0, 0, 1, 1, 2, 1, 1, 0, 1, 3, 14, 2, 6, 1, 2, 1, 0, 0, 3, 1, 2, 1, 1, 0, -1, 2, 6, 7, 2, 1, 0, 0, 1, 2, 6, 7, 2, 1, 0, 0, 3, 1, 2, 1, 1, 0, 0]), (4, [7, 1, 3], []), (1, [6, 4, 5], []), (20, [2, 5], [50, 0, 0, 3, 14, 2, 6, 1, 2, 1, 0, 0, 0, 1, 2, 1, 1, 0, 1, 3, 14, 2, 6, 1, 2, 1, 0, 0, 2, 1, 2, 1, 1, 0, -1, 2, 6, 7, 2, 1, 0, 0, 0, 2, 6, 7, 2, 1, 0, 0, 2, 1, 2, 1, 1, 0, 0]), (5, [4, 1, 3], []), (20, [0], [60, 2, 0, 418, 146, 147]), (20, [1, 0], [50, 2, 0, 1146, 1147, 2, 6, 0, 2, 0, 0, 1, 0, 0, 6, 4, 2, 1, 0, 0, 1, 6, 3, 2, 1, 146, 2, 1, 147])] ta ws vs := hf
  obtain ⟨f0, hf⟩ := fc_un (show (1 : Nat) < 100 from by decide) hf
  have f0 : v_iv (n_v vs 20) = v_iv (n_v vs 19) + v_iv (n_v vs 6) := f0
  obtain ⟨f1, hf⟩ := fc_un (show (3 : Nat) < 100 from by decide) hf
  have f1 : v_iv (n_v vs 19) = v_iv (n_v vs 9) * v_iv (n_v vs 3) := f1
  obtain ⟨f2, hf⟩ := fc_un (show (9 : Nat) < 100 from by decide) hf
  have f2 : n_v vs 3 = w_fd ws (v_ad (n_v vs 0)) 146 := f2
  obtain ⟨f3, hf⟩ := fc_un (show (2 : Nat) < 100 from by decide) hf
  have f3 : v_iv (n_v vs 17) = v_iv (n_v vs 15) - v_iv (n_v vs 16) := f3
  obtain ⟨f4, hf⟩ := fc_un (show (9 : Nat) < 100 from by decide) hf
  have f4 : n_v vs 15 = w_fd ws (v_ad (n_v vs 0)) 147 := f4
  obtain ⟨f5, hf⟩ := fc_un (show (2 : Nat) < 100 from by decide) hf
  have f5 : v_iv (n_v vs 12) = v_iv (n_v vs 3) - v_iv (n_v vs 11) := f5
  obtain ⟨f6, hf⟩ := fc_un (show (1 : Nat) < 100 from by decide) hf
  have f6 : v_iv (n_v vs 9) = v_iv (n_v vs 7) + v_iv (n_v vs 8) := f6
  obtain ⟨f7, hf⟩ := fc_un (show (20 : Nat) < 100 from by decide) hf
  have f7 : ((v_iv (n_v vs 2) = 1) ∧ (v_iv (n_v vs 8) = 1)) ∨ (((v_iv (n_v vs 2) = 3) ∧ (v_iv (n_v vs 8) = (-1))) ∨ ((v_iv (n_v vs 2) ≠ 1) ∧ ((v_iv (n_v vs 2) ≠ 3) ∧ (v_iv (n_v vs 8) = 0)))) := f7
  obtain ⟨f8, hf⟩ := fc_un (show (4 : Nat) < 100 from by decide) hf
  have f8 : v_iv (n_v vs 7) = Int.tdiv (v_iv (n_v vs 1)) (v_iv (n_v vs 3)) := f8
  have fq8 : 10 ≤ v_iv (n_v vs 7) → 10 * v_iv (n_v vs 3) ≤ v_iv (n_v vs 1) := dv_ten f8 (by omega) (by omega)
  obtain ⟨f9, hf⟩ := fc_un (show (1 : Nat) < 100 from by decide) hf
  have f9 : v_iv (n_v vs 6) = v_iv (n_v vs 4) + v_iv (n_v vs 5) := f9
  obtain ⟨f10, hf⟩ := fc_un (show (20 : Nat) < 100 from by decide) hf
  have f10 : ((v_iv (n_v vs 2) = 0) ∧ (v_iv (n_v vs 5) = 1)) ∨ (((v_iv (n_v vs 2) = 2) ∧ (v_iv (n_v vs 5) = (-1))) ∨ ((v_iv (n_v vs 2) ≠ 0) ∧ ((v_iv (n_v vs 2) ≠ 2) ∧ (v_iv (n_v vs 5) = 0)))) := f10
  obtain ⟨f11, hf⟩ := fc_un (show (5 : Nat) < 100 from by decide) hf
  have f11 : v_iv (n_v vs 4) = Int.tmod (v_iv (n_v vs 1)) (v_iv (n_v vs 3)) := f11
  obtain ⟨f12, hf⟩ := fc_un (show (20 : Nat) < 100 from by decide) hf
  have f12 : GRX (w_fi ws (n_v vs 0) 146) (w_fi ws (n_v vs 0) 147) := f12
  obtain ⟨f13, hf⟩ := fc_un (show (20 : Nat) < 100 from by decide) hf
  have f13 : (0 ≤ v_iv (n_v vs 1)) ∧ ((v_iv (n_v vs 1) + 1) ≤ (w_fi ws (n_v vs 0) 146 * w_fi ws (n_v vs 0) 147)) := f13
  have g2 : v_iv (n_v vs 3) = w_fi ws (n_v vs 0) 146 := congrArg v_iv f2
  have g4 : v_iv (n_v vs 15) = w_fi ws (n_v vs 0) 147 := congrArg v_iv f4
  have kz_0_146 : (-2147483648) ≤ w_fi ws (n_v vs 0) 146 ∧ w_fi ws (n_v vs 0) 146 ≤ 2147483647 := tv_rng (th_fd hD hth r0 (g := GG_150) rfl (k := 146) (t := (0, -2147483648, 2147483647, [])) rfl rfl)
  have kz_0_147 : (-2147483648) ≤ w_fi ws (n_v vs 0) 147 ∧ w_fi ws (n_v vs 0) 147 ≤ 2147483647 := tv_rng (th_fd hD hth r0 (g := GG_150) rfl (k := 147) (t := (0, -2147483648, 2147483647, [])) rfl rfl)
  have hrf0 : 1 ≤ v_iv (n_v vs 20) ∧ v_iv (n_v vs 20) ≤ 5999 := vc_Mo_stepTo_30_r0 (v_iv (n_v vs 1)) (v_iv (n_v vs 2)) (v_iv (n_v vs 3)) (v_iv (n_v vs 4)) (v_iv (n_v vs 5)) (v_iv (n_v vs 6)) (v_iv (n_v vs 7)) (v_iv (n_v vs 8)) (v_iv (n_v vs 9)) (v_iv (n_v vs 11)) (v_iv (n_v vs 12)) (v_iv (n_v vs 15)) (v_iv (n_v vs 16)) (v_iv (n_v vs 17)) (v_iv (n_v vs 19)) (v_iv (n_v vs 20)) (w_fi ws (n_v vs 0) 146) (w_fi ws (n_v vs 0) 147) k1 k2 k3 k4 k5 k6 k7 k8 k9 k11 k12 k15 k16 k17 k19 k20 d0 d1 d2 d3 d4 d5 d6 d7 d8 d9 d10 d11 d12 f0 f1 g2 f3 g4 f5 f6 f7 f8 f9 f10 f11 f12 f13 kz_0_146 kz_0_147
  have rf20 : tv_ok ta (0, 1, 5999, []) (n_v vs 20) := tv_in t20 (by first | omega | grind) (by first | omega | grind)
  refine ⟨List.forall_mem_cons.mpr ⟨rf20, (fun _ h => (by cases h))⟩, [], trivial, ?_, (fun _ h => (by cases h))⟩
  rw [List.append_nil]
  exact (fun _ h => (by cases h))
set_option maxHeartbeats 4000000 in
theorem vc_Mo_stepTo_31_0 (x1 : Int) (x2 : Int) (x3 : Int) (x4 : Int) (x5 : Int) (x6 : Int) (x7 : Int) (x8 : Int) (x9 : Int) (x11 : Int) (x12 : Int) (x15 : Int) (x16 : Int) (x17 : Int) (x19 : Int) (x20 : Int) (x22 : Int) (barredPoint_0 : Int → Int) (wide_0 : Int) (tall_0 : Int) (k1 : 0 ≤ x1 ∧ x1 ≤ 5999) (k2 : 0 ≤ x2 ∧ x2 ≤ 0) (k3 : 1 ≤ x3 ∧ x3 ≤ 6000) (k4 : 0 ≤ x4 ∧ x4 ≤ 5999) (k5 : 1 ≤ x5 ∧ x5 ≤ 1) (k6 : 1 ≤ x6 ∧ x6 ≤ 5999) (k7 : 0 ≤ x7 ∧ x7 ≤ 5999) (k8 : 0 ≤ x8 ∧ x8 ≤ 0) (k9 : 0 ≤ x9 ∧ x9 ≤ 5999) (k11 : 1 ≤ x11 ∧ x11 ≤ 1) (k12 : 1 ≤ x12 ∧ x12 ≤ 5999) (k15 : 1 ≤ x15 ∧ x15 ≤ 6000) (k16 : 1 ≤ x16 ∧ x16 ≤ 1) (k17 : 0 ≤ x17 ∧ x17 ≤ 5999) (k19 : 0 ≤ x19 ∧ x19 ≤ 35994000) (k20 : 1 ≤ x20 ∧ x20 ≤ 5999) (k22 : 0 ≤ x22 ∧ x22 ≤ 0) (d0 : x6 + 0 ≤ x20 ∧ x20 ≤ x6 + 35994000) (d1 : x4 + 1 ≤ x20 ∧ x20 ≤ x4 + 35994001) (d2 : x19 + 1 ≤ x20 ∧ x20 ≤ x19 + 5999) (d3 : x17 + (-4294967296) ≤ x9 ∧ x9 ≤ x17 + 0) (d4 : x15 + (-1) ≤ x17 ∧ x17 ≤ x15 + (-1)) (d5 : x12 + (-4294967296) ≤ x6 ∧ x6 ≤ x12 + 0) (d6 : x3 + (-1) ≤ x12 ∧ x12 ≤ x3 + (-1)) (d7 : x7 + 0 ≤ x9 ∧ x9 ≤ x7 + 0) (d8 : x4 + 1 ≤ x6 ∧ x6 ≤ x4 + 1) (d9 : x3 + (-4294967294) ≤ x6 ∧ x6 ≤ x3 + 0) (d10 : x3 + (-4294967295) ≤ x4 ∧ x4 ≤ x3 + (-1)) (f0 : x22 = 0) (h1 : x22 = barredPoint_0 (x20)) (f3 : x20 = x19 + x6) (f4 : x19 = x9 * x3) (g5 : x3 = wide_0) (f6 : x17 = x15 - x16) (g7 : x15 = tall_0) (f8 : x12 = x3 - x11) (f9 : x9 = x7 + x8) (f10 : ((x2 = 1) ∧ (x8 = 1)) ∨ (((x2 = 3) ∧ (x8 = (-1))) ∨ ((x2 ≠ 1) ∧ ((x2 ≠ 3) ∧ (x8 = 0))))) (f11 : x7 = Int.tdiv (x1) (x3)) (f12 : x6 = x4 + x5) (f13 : ((x2 = 0) ∧ (x5 = 1)) ∨ (((x2 = 2) ∧ (x5 = (-1))) ∨ ((x2 ≠ 0) ∧ ((x2 ≠ 2) ∧ (x5 = 0))))) (f14 : x4 = Int.tmod (x1) (x3)) (f15 : GRX (wide_0) (tall_0)) (f16 : (0 ≤ x1) ∧ ((x1 + 1) ≤ (wide_0 * tall_0))) (hK_0_143 : ∀ j : Int, 0 ≤ j → j < 6000 → 0 ≤ barredPoint_0 j ∧ barredPoint_0 j ≤ 1) (kz_0_146 : (-2147483648) ≤ wide_0 ∧ wide_0 ≤ 2147483647) (kz_0_147 : (-2147483648) ≤ tall_0 ∧ tall_0 ≤ 2147483647) : STQ (wide_0) (tall_0) (barredPoint_0) (x1) (x2) (x20) := by
  have g := gok_bd ‹GRX _ _›
  have e3 : x3 = wide_0 := by assumption
  have tm : x4 = x1 % wide_0 := by rw [← e3, ‹x4 = Int.tmod x1 x3›]; exact Int.tmod_eq_emod_of_nonneg (by omega)
  have td : x7 = x1 / wide_0 := by rw [← e3, ‹x7 = Int.tdiv x1 x3›]; exact Int.tdiv_eq_ediv_of_nonneg (by omega)
  have hx : x6 = x1 % wide_0 + dxf x2 := by rw [← tm]; unfold dxf; split; omega; split <;> omega
  have hy : x9 = x1 / wide_0 + dyf x2 := by rw [← td]; unfold dyf; split; omega; split <;> omega
  first
    | exact stq_none hx hy (by omega) (by omega)
    | exact stq_ok (q := x20) (v := x22) (stq_cell (r := x19) hx hy (by omega) (by rw [← e3]; assumption) (by assumption)) (by omega) (by assumption) (by omega) rfl
    | exact stq_bar (q := x20) (v := x22) (stq_cell (r := x19) hx hy (by omega) (by rw [← e3]; assumption) (by assumption)) (by assumption) (by omega) (by omega)
set_option maxHeartbeats 4000000 in
theorem vc_Mo_stepTo_31_1 (x1 : Int) (x2 : Int) (x3 : Int) (x4 : Int) (x5 : Int) (x6 : Int) (x7 : Int) (x8 : Int) (x9 : Int) (x11 : Int) (x12 : Int) (x15 : Int) (x16 : Int) (x17 : Int) (x19 : Int) (x20 : Int) (x22 : Int) (barredPoint_0 : Int → Int) (wide_0 : Int) (tall_0 : Int) (k1 : 0 ≤ x1 ∧ x1 ≤ 5999) (k2 : 0 ≤ x2 ∧ x2 ≤ 0) (k3 : 1 ≤ x3 ∧ x3 ≤ 6000) (k4 : 0 ≤ x4 ∧ x4 ≤ 5999) (k5 : 1 ≤ x5 ∧ x5 ≤ 1) (k6 : 1 ≤ x6 ∧ x6 ≤ 5999) (k7 : 0 ≤ x7 ∧ x7 ≤ 5999) (k8 : 0 ≤ x8 ∧ x8 ≤ 0) (k9 : 0 ≤ x9 ∧ x9 ≤ 5999) (k11 : 1 ≤ x11 ∧ x11 ≤ 1) (k12 : 1 ≤ x12 ∧ x12 ≤ 5999) (k15 : 1 ≤ x15 ∧ x15 ≤ 6000) (k16 : 1 ≤ x16 ∧ x16 ≤ 1) (k17 : 0 ≤ x17 ∧ x17 ≤ 5999) (k19 : 0 ≤ x19 ∧ x19 ≤ 35994000) (k20 : 1 ≤ x20 ∧ x20 ≤ 5999) (k22 : 0 ≤ x22 ∧ x22 ≤ 0) (d0 : x6 + 0 ≤ x20 ∧ x20 ≤ x6 + 35994000) (d1 : x4 + 1 ≤ x20 ∧ x20 ≤ x4 + 35994001) (d2 : x19 + 1 ≤ x20 ∧ x20 ≤ x19 + 5999) (d3 : x17 + (-4294967296) ≤ x9 ∧ x9 ≤ x17 + 0) (d4 : x15 + (-1) ≤ x17 ∧ x17 ≤ x15 + (-1)) (d5 : x12 + (-4294967296) ≤ x6 ∧ x6 ≤ x12 + 0) (d6 : x3 + (-1) ≤ x12 ∧ x12 ≤ x3 + (-1)) (d7 : x7 + 0 ≤ x9 ∧ x9 ≤ x7 + 0) (d8 : x4 + 1 ≤ x6 ∧ x6 ≤ x4 + 1) (d9 : x3 + (-4294967294) ≤ x6 ∧ x6 ≤ x3 + 0) (d10 : x3 + (-4294967295) ≤ x4 ∧ x4 ≤ x3 + (-1)) (f0 : x22 = 0) (h1 : x22 = barredPoint_0 (x20)) (f3 : x20 = x19 + x6) (f4 : x19 = x9 * x3) (g5 : x3 = wide_0) (f6 : x17 = x15 - x16) (g7 : x15 = tall_0) (f8 : x12 = x3 - x11) (f9 : x9 = x7 + x8) (f10 : ((x2 = 1) ∧ (x8 = 1)) ∨ (((x2 = 3) ∧ (x8 = (-1))) ∨ ((x2 ≠ 1) ∧ ((x2 ≠ 3) ∧ (x8 = 0))))) (f11 : x7 = Int.tdiv (x1) (x3)) (f12 : x6 = x4 + x5) (f13 : ((x2 = 0) ∧ (x5 = 1)) ∨ (((x2 = 2) ∧ (x5 = (-1))) ∨ ((x2 ≠ 0) ∧ ((x2 ≠ 2) ∧ (x5 = 0))))) (f14 : x4 = Int.tmod (x1) (x3)) (f15 : GRX (wide_0) (tall_0)) (f16 : (0 ≤ x1) ∧ ((x1 + 1) ≤ (wide_0 * tall_0))) (hK_0_143 : ∀ j : Int, 0 ≤ j → j < 6000 → 0 ≤ barredPoint_0 j ∧ barredPoint_0 j ≤ 1) (kz_0_146 : (-2147483648) ≤ wide_0 ∧ wide_0 ≤ 2147483647) (kz_0_147 : (-2147483648) ≤ tall_0 ∧ tall_0 ≤ 2147483647) : ((-1) ≤ x20) ∧ ((x20 + 1) ≤ (wide_0 * tall_0)) := by
  first
    | omega
    | (have g := gok_bd ‹GRX _ _›; omega)
    | (have g := gok_bd ‹GRX _ _›
       have c := cell_ix (W := x3) (T := x15) (x := x6) (y := x9) (p := x20) (by omega) (by omega) (by omega) (by omega) (by omega) (by rw [‹x20 = x19 + x6›, ‹x19 = x9 * x3›])
       have e3 : x3 = wide_0 := by assumption
       have e15 : x15 = tall_0 := by assumption
       have g3 := ‹GRX _ _›.2.2
       rw [e3, e15] at c
       omega)
def o_Mo_stepTo_31 : or_T := (83, 23, [(0, (2, 0, 0, [150])), (1, (0, 0, 5999, [])), (2, (0, 0, 0, [])), (3, (0, 1, 6000, [])), (4, (0, 0, 5999, [])), (5, (0, 1, 1, [])), (6, (0, 1, 5999, [])), (7, (0, 0, 5999, [])), (8, (0, 0, 0, [])), (9, (0, 0, 5999, [])), (11, (0, 1, 1, [])), (12, (0, 1, 5999, [])), (15, (0, 1, 6000, [])), (16, (0, 1, 1, [])), (17, (0, 0, 5999, [])), (19, (0, 0, 35994000, [])), (20, (0, 1, 5999, [])), (21, (2, 0, 0, [254])), (22, (0, 0, 0, []))], [(8, [22], [0]), (10, [22, 21, 20], []), (9, [21, 0], [143]), (1, [20, 19, 6], []), (3, [19, 9, 3], []), (9, [3, 0], [146]), (2, [17, 15, 16], []), (9, [15, 0], [147]), (2, [12, 3, 11], []), (1, [9, 7, 8], []), (20, [2, 8], [50, 0, 0, 3, 14, 2, 6, 1, 2, 1, 0, 0, 1, 1, 2, 1, 1, 0, 1, 3, 14, 2, 6, 1, 2, 1, 0, 0, 3, 1, 2, 1, 1, 0, -1, 2, 6, 7, 2, 1, 0, 0, 1, 2, 6, 7, 2, 1, 0, 0, 3, 1, 2, 1, 1, 0, 0]), (4, [7, 1, 3], []), (1, [6, 4, 5], []), (20, [2, 5], [50, 0, 0, 3, 14, 2, 6, 1, 2, 1, 0, 0, 0, 1, 2, 1, 1, 0, 1, 3, 14, 2, 6, 1, 2, 1, 0, 0, 2, 1, 2, 1, 1, 0, -1, 2, 6, 7, 2, 1, 0, 0, 0, 2, 6, 7, 2, 1, 0, 0, 2, 1, 2, 1, 1, 0, 0]), (5, [4, 1, 3], []), (20, [0], [60, 2, 0, 418, 146, 147]), (20, [1, 0], [50, 2, 0, 1146, 1147, 2, 6, 0, 2, 0, 0, 1, 0, 0, 6, 4, 2, 1, 0, 0, 1, 6, 3, 2, 1, 146, 2, 1, 147])], [], [], [(20, [0, 1, 2, 20], [60, 2, 1, 429, 146, 147, 143]), (20, [20, 0], [50, 2, 0, 1146, 1147, 2, 6, 0, 2, 0, -1, 1, 0, 0, 6, 4, 2, 1, 0, 0, 1, 6, 3, 2, 1, 146, 2, 1, 147])], [], [(20, 6, 0, 35994000), (20, 4, 1, 35994001), (20, 19, 1, 5999), (9, 17, -4294967296, 0), (17, 15, -1, -1), (6, 12, -4294967296, 0), (12, 3, -1, -1), (9, 7, 0, 0), (6, 4, 1, 1), (6, 3, -4294967294, 0), (4, 3, -4294967295, -1)])
theorem oo_Mo_stepTo_31 {kA : Nat → ClassId} : or_ok PRD kA GG o_Mo_stepTo_31 := by
  intro A ta ws vs hD hth hl hk hds hf
  have hl : vs.length = 23 := hl
  have hk : ∀ q ∈ ([(0, (2, 0, 0, [150])), (1, (0, 0, 5999, [])), (2, (0, 0, 0, [])), (3, (0, 1, 6000, [])), (4, (0, 0, 5999, [])), (5, (0, 1, 1, [])), (6, (0, 1, 5999, [])), (7, (0, 0, 5999, [])), (8, (0, 0, 0, [])), (9, (0, 0, 5999, [])), (11, (0, 1, 1, [])), (12, (0, 1, 5999, [])), (15, (0, 1, 6000, [])), (16, (0, 1, 1, [])), (17, (0, 0, 5999, [])), (19, (0, 0, 35994000, [])), (20, (0, 1, 5999, [])), (21, (2, 0, 0, [254])), (22, (0, 0, 0, []))] : List (Nat × tv_T)), tv_ok ta q.2 (n_v vs q.1) := hk
  obtain ⟨t0, hk⟩ := List.forall_mem_cons.mp hk
  have t0 : tv_ok ta (2, 0, 0, [150]) (n_v vs 0) := t0
  have r0 : ta (v_ad (n_v vs 0)) = some 150 := tv_rg t0
  obtain ⟨t1, hk⟩ := List.forall_mem_cons.mp hk
  have t1 : tv_ok ta (0, 0, 5999, []) (n_v vs 1) := t1
  have k1 : 0 ≤ v_iv (n_v vs 1) ∧ v_iv (n_v vs 1) ≤ 5999 := tv_rng t1
  obtain ⟨t2, hk⟩ := List.forall_mem_cons.mp hk
  have t2 : tv_ok ta (0, 0, 0, []) (n_v vs 2) := t2
  have k2 : 0 ≤ v_iv (n_v vs 2) ∧ v_iv (n_v vs 2) ≤ 0 := tv_rng t2
  obtain ⟨t3, hk⟩ := List.forall_mem_cons.mp hk
  have t3 : tv_ok ta (0, 1, 6000, []) (n_v vs 3) := t3
  have k3 : 1 ≤ v_iv (n_v vs 3) ∧ v_iv (n_v vs 3) ≤ 6000 := tv_rng t3
  obtain ⟨t4, hk⟩ := List.forall_mem_cons.mp hk
  have t4 : tv_ok ta (0, 0, 5999, []) (n_v vs 4) := t4
  have k4 : 0 ≤ v_iv (n_v vs 4) ∧ v_iv (n_v vs 4) ≤ 5999 := tv_rng t4
  obtain ⟨t5, hk⟩ := List.forall_mem_cons.mp hk
  have t5 : tv_ok ta (0, 1, 1, []) (n_v vs 5) := t5
  have k5 : 1 ≤ v_iv (n_v vs 5) ∧ v_iv (n_v vs 5) ≤ 1 := tv_rng t5
  obtain ⟨t6, hk⟩ := List.forall_mem_cons.mp hk
  have t6 : tv_ok ta (0, 1, 5999, []) (n_v vs 6) := t6
  have k6 : 1 ≤ v_iv (n_v vs 6) ∧ v_iv (n_v vs 6) ≤ 5999 := tv_rng t6
  obtain ⟨t7, hk⟩ := List.forall_mem_cons.mp hk
  have t7 : tv_ok ta (0, 0, 5999, []) (n_v vs 7) := t7
  have k7 : 0 ≤ v_iv (n_v vs 7) ∧ v_iv (n_v vs 7) ≤ 5999 := tv_rng t7
  obtain ⟨t8, hk⟩ := List.forall_mem_cons.mp hk
  have t8 : tv_ok ta (0, 0, 0, []) (n_v vs 8) := t8
  have k8 : 0 ≤ v_iv (n_v vs 8) ∧ v_iv (n_v vs 8) ≤ 0 := tv_rng t8
  obtain ⟨t9, hk⟩ := List.forall_mem_cons.mp hk
  have t9 : tv_ok ta (0, 0, 5999, []) (n_v vs 9) := t9
  have k9 : 0 ≤ v_iv (n_v vs 9) ∧ v_iv (n_v vs 9) ≤ 5999 := tv_rng t9
  obtain ⟨t11, hk⟩ := List.forall_mem_cons.mp hk
  have t11 : tv_ok ta (0, 1, 1, []) (n_v vs 11) := t11
  have k11 : 1 ≤ v_iv (n_v vs 11) ∧ v_iv (n_v vs 11) ≤ 1 := tv_rng t11
  obtain ⟨t12, hk⟩ := List.forall_mem_cons.mp hk
  have t12 : tv_ok ta (0, 1, 5999, []) (n_v vs 12) := t12
  have k12 : 1 ≤ v_iv (n_v vs 12) ∧ v_iv (n_v vs 12) ≤ 5999 := tv_rng t12
  obtain ⟨t15, hk⟩ := List.forall_mem_cons.mp hk
  have t15 : tv_ok ta (0, 1, 6000, []) (n_v vs 15) := t15
  have k15 : 1 ≤ v_iv (n_v vs 15) ∧ v_iv (n_v vs 15) ≤ 6000 := tv_rng t15
  obtain ⟨t16, hk⟩ := List.forall_mem_cons.mp hk
  have t16 : tv_ok ta (0, 1, 1, []) (n_v vs 16) := t16
  have k16 : 1 ≤ v_iv (n_v vs 16) ∧ v_iv (n_v vs 16) ≤ 1 := tv_rng t16
  obtain ⟨t17, hk⟩ := List.forall_mem_cons.mp hk
  have t17 : tv_ok ta (0, 0, 5999, []) (n_v vs 17) := t17
  have k17 : 0 ≤ v_iv (n_v vs 17) ∧ v_iv (n_v vs 17) ≤ 5999 := tv_rng t17
  obtain ⟨t19, hk⟩ := List.forall_mem_cons.mp hk
  have t19 : tv_ok ta (0, 0, 35994000, []) (n_v vs 19) := t19
  have k19 : 0 ≤ v_iv (n_v vs 19) ∧ v_iv (n_v vs 19) ≤ 35994000 := tv_rng t19
  obtain ⟨t20, hk⟩ := List.forall_mem_cons.mp hk
  have t20 : tv_ok ta (0, 1, 5999, []) (n_v vs 20) := t20
  have k20 : 1 ≤ v_iv (n_v vs 20) ∧ v_iv (n_v vs 20) ≤ 5999 := tv_rng t20
  obtain ⟨t21, hk⟩ := List.forall_mem_cons.mp hk
  have t21 : tv_ok ta (2, 0, 0, [254]) (n_v vs 21) := t21
  have r21 : ta (v_ad (n_v vs 21)) = some 254 := tv_rg t21
  obtain ⟨t22, hk⟩ := List.forall_mem_cons.mp hk
  have t22 : tv_ok ta (0, 0, 0, []) (n_v vs 22) := t22
  have k22 : 0 ≤ v_iv (n_v vs 22) ∧ v_iv (n_v vs 22) ≤ 0 := tv_rng t22
  have hds : ∀ q ∈ ([(20, 6, 0, 35994000), (20, 4, 1, 35994001), (20, 19, 1, 5999), (9, 17, -4294967296, 0), (17, 15, -1, -1), (6, 12, -4294967296, 0), (12, 3, -1, -1), (9, 7, 0, 0), (6, 4, 1, 1), (6, 3, -4294967294, 0), (4, 3, -4294967295, -1)] : List of_T), n_iv vs q.2.1 + q.2.2.1 ≤ n_iv vs q.1 ∧ n_iv vs q.1 ≤ n_iv vs q.2.1 + q.2.2.2 := hds
  obtain ⟨d0, hds⟩ := List.forall_mem_cons.mp hds
  have d0 : v_iv (n_v vs 6) + 0 ≤ v_iv (n_v vs 20) ∧ v_iv (n_v vs 20) ≤ v_iv (n_v vs 6) + 35994000 := d0
  obtain ⟨d1, hds⟩ := List.forall_mem_cons.mp hds
  have d1 : v_iv (n_v vs 4) + 1 ≤ v_iv (n_v vs 20) ∧ v_iv (n_v vs 20) ≤ v_iv (n_v vs 4) + 35994001 := d1
  obtain ⟨d2, hds⟩ := List.forall_mem_cons.mp hds
  have d2 : v_iv (n_v vs 19) + 1 ≤ v_iv (n_v vs 20) ∧ v_iv (n_v vs 20) ≤ v_iv (n_v vs 19) + 5999 := d2
  obtain ⟨d3, hds⟩ := List.forall_mem_cons.mp hds
  have d3 : v_iv (n_v vs 17) + (-4294967296) ≤ v_iv (n_v vs 9) ∧ v_iv (n_v vs 9) ≤ v_iv (n_v vs 17) + 0 := d3
  obtain ⟨d4, hds⟩ := List.forall_mem_cons.mp hds
  have d4 : v_iv (n_v vs 15) + (-1) ≤ v_iv (n_v vs 17) ∧ v_iv (n_v vs 17) ≤ v_iv (n_v vs 15) + (-1) := d4
  obtain ⟨d5, hds⟩ := List.forall_mem_cons.mp hds
  have d5 : v_iv (n_v vs 12) + (-4294967296) ≤ v_iv (n_v vs 6) ∧ v_iv (n_v vs 6) ≤ v_iv (n_v vs 12) + 0 := d5
  obtain ⟨d6, hds⟩ := List.forall_mem_cons.mp hds
  have d6 : v_iv (n_v vs 3) + (-1) ≤ v_iv (n_v vs 12) ∧ v_iv (n_v vs 12) ≤ v_iv (n_v vs 3) + (-1) := d6
  obtain ⟨d7, hds⟩ := List.forall_mem_cons.mp hds
  have d7 : v_iv (n_v vs 7) + 0 ≤ v_iv (n_v vs 9) ∧ v_iv (n_v vs 9) ≤ v_iv (n_v vs 7) + 0 := d7
  obtain ⟨d8, hds⟩ := List.forall_mem_cons.mp hds
  have d8 : v_iv (n_v vs 4) + 1 ≤ v_iv (n_v vs 6) ∧ v_iv (n_v vs 6) ≤ v_iv (n_v vs 4) + 1 := d8
  obtain ⟨d9, hds⟩ := List.forall_mem_cons.mp hds
  have d9 : v_iv (n_v vs 3) + (-4294967294) ≤ v_iv (n_v vs 6) ∧ v_iv (n_v vs 6) ≤ v_iv (n_v vs 3) + 0 := d9
  obtain ⟨d10, hds⟩ := List.forall_mem_cons.mp hds
  have d10 : v_iv (n_v vs 3) + (-4294967295) ≤ v_iv (n_v vs 4) ∧ v_iv (n_v vs 4) ≤ v_iv (n_v vs 3) + (-1) := d10
  have hf : fc_ok PRD [(8, [22], [0]), (10, [22, 21, 20], []), (9, [21, 0], [143]), (1, [20, 19, 6], []), (3, [19, 9, 3], []), (9, [3, 0], [146]), (2, [17, 15, 16], []), (9, [15, 0], [147]), (2, [12, 3, 11], []), (1, [9, 7, 8], []), (20, [2, 8], [50, 0, 0, 3, 14, 2, 6, 1, 2, 1, 0, 0, 1, 1, 2, 1, 1, 0, 1, 3, 14, 2, 6, 1, 2, 1, 0, 0, 3, 1, 2, 1, 1, 0, -1, 2, 6, 7, 2, 1, 0, 0, 1, 2, 6, 7, 2, 1, 0, 0, 3, 1, 2, 1, 1, 0, 0]), (4, [7, 1, 3], []), (1, [6, 4, 5], []), (20, [2, 5], [50, 0, 0, 3, 14, 2, 6, 1, 2, 1, 0, 0, 0, 1, 2, 1, 1, 0, 1, 3, 14, 2, 6, 1, 2, 1, 0, 0, 2, 1, 2, 1, 1, 0, -1, 2, 6, 7, 2, 1, 0, 0, 0, 2, 6, 7, 2, 1, 0, 0, 2, 1, 2, 1, 1, 0, 0]), (5, [4, 1, 3], []), (20, [0], [60, 2, 0, 418, 146, 147]), (20, [1, 0], [50, 2, 0, 1146, 1147, 2, 6, 0, 2, 0, 0, 1, 0, 0, 6, 4, 2, 1, 0, 0, 1, 6, 3, 2, 1, 146, 2, 1, 147])] ta ws vs := hf
  obtain ⟨f0, hf⟩ := fc_un (show (8 : Nat) < 100 from by decide) hf
  have f0 : v_iv (n_v vs 22) = 0 := f0
  obtain ⟨f1, hf⟩ := fc_un (show (10 : Nat) < 100 from by decide) hf
  have f1 : v_iv (n_v vs 22) = w_el ws (v_ad (n_v vs 21)) (v_iv (n_v vs 20)).toNat := f1
  obtain ⟨f2, hf⟩ := fc_un (show (9 : Nat) < 100 from by decide) hf
  have f2 : n_v vs 21 = w_fd ws (v_ad (n_v vs 0)) 143 := f2
  obtain ⟨f3, hf⟩ := fc_un (show (1 : Nat) < 100 from by decide) hf
  have f3 : v_iv (n_v vs 20) = v_iv (n_v vs 19) + v_iv (n_v vs 6) := f3
  obtain ⟨f4, hf⟩ := fc_un (show (3 : Nat) < 100 from by decide) hf
  have f4 : v_iv (n_v vs 19) = v_iv (n_v vs 9) * v_iv (n_v vs 3) := f4
  obtain ⟨f5, hf⟩ := fc_un (show (9 : Nat) < 100 from by decide) hf
  have f5 : n_v vs 3 = w_fd ws (v_ad (n_v vs 0)) 146 := f5
  obtain ⟨f6, hf⟩ := fc_un (show (2 : Nat) < 100 from by decide) hf
  have f6 : v_iv (n_v vs 17) = v_iv (n_v vs 15) - v_iv (n_v vs 16) := f6
  obtain ⟨f7, hf⟩ := fc_un (show (9 : Nat) < 100 from by decide) hf
  have f7 : n_v vs 15 = w_fd ws (v_ad (n_v vs 0)) 147 := f7
  obtain ⟨f8, hf⟩ := fc_un (show (2 : Nat) < 100 from by decide) hf
  have f8 : v_iv (n_v vs 12) = v_iv (n_v vs 3) - v_iv (n_v vs 11) := f8
  obtain ⟨f9, hf⟩ := fc_un (show (1 : Nat) < 100 from by decide) hf
  have f9 : v_iv (n_v vs 9) = v_iv (n_v vs 7) + v_iv (n_v vs 8) := f9
  obtain ⟨f10, hf⟩ := fc_un (show (20 : Nat) < 100 from by decide) hf
  have f10 : ((v_iv (n_v vs 2) = 1) ∧ (v_iv (n_v vs 8) = 1)) ∨ (((v_iv (n_v vs 2) = 3) ∧ (v_iv (n_v vs 8) = (-1))) ∨ ((v_iv (n_v vs 2) ≠ 1) ∧ ((v_iv (n_v vs 2) ≠ 3) ∧ (v_iv (n_v vs 8) = 0)))) := f10
  obtain ⟨f11, hf⟩ := fc_un (show (4 : Nat) < 100 from by decide) hf
  have f11 : v_iv (n_v vs 7) = Int.tdiv (v_iv (n_v vs 1)) (v_iv (n_v vs 3)) := f11
  have fq11 : 10 ≤ v_iv (n_v vs 7) → 10 * v_iv (n_v vs 3) ≤ v_iv (n_v vs 1) := dv_ten f11 (by omega) (by omega)
  obtain ⟨f12, hf⟩ := fc_un (show (1 : Nat) < 100 from by decide) hf
  have f12 : v_iv (n_v vs 6) = v_iv (n_v vs 4) + v_iv (n_v vs 5) := f12
  obtain ⟨f13, hf⟩ := fc_un (show (20 : Nat) < 100 from by decide) hf
  have f13 : ((v_iv (n_v vs 2) = 0) ∧ (v_iv (n_v vs 5) = 1)) ∨ (((v_iv (n_v vs 2) = 2) ∧ (v_iv (n_v vs 5) = (-1))) ∨ ((v_iv (n_v vs 2) ≠ 0) ∧ ((v_iv (n_v vs 2) ≠ 2) ∧ (v_iv (n_v vs 5) = 0)))) := f13
  obtain ⟨f14, hf⟩ := fc_un (show (5 : Nat) < 100 from by decide) hf
  have f14 : v_iv (n_v vs 4) = Int.tmod (v_iv (n_v vs 1)) (v_iv (n_v vs 3)) := f14
  obtain ⟨f15, hf⟩ := fc_un (show (20 : Nat) < 100 from by decide) hf
  have f15 : GRX (w_fi ws (n_v vs 0) 146) (w_fi ws (n_v vs 0) 147) := f15
  obtain ⟨f16, hf⟩ := fc_un (show (20 : Nat) < 100 from by decide) hf
  have f16 : (0 ≤ v_iv (n_v vs 1)) ∧ ((v_iv (n_v vs 1) + 1) ≤ (w_fi ws (n_v vs 0) 146 * w_fi ws (n_v vs 0) 147)) := f16
  have cr_0_143 : ta (w_ar ws (n_v vs 0) 143) = some 254 := tv_rg (th_fd hD hth r0 (g := GG_150) rfl (k := 143) (t := (2, 0, 0, [254])) rfl rfl)
  have ad_21 : v_ad (n_v vs 21) = w_ar ws (n_v vs 0) 143 := congrArg v_ad f2
  rw [ad_21] at f1
  have h1 : v_iv (n_v vs 22) = w_ei ws (w_ar ws (n_v vs 0) 143) (v_iv (n_v vs 20)) := f1
  have g5 : v_iv (n_v vs 3) = w_fi ws (n_v vs 0) 146 := congrArg v_iv f5
  have g7 : v_iv (n_v vs 15) = w_fi ws (n_v vs 0) 147 := congrArg v_iv f7
  have hK_0_143 : ∀ j : Int, 0 ≤ j → j < 6000 → 0 ≤ w_ei ws (w_ar ws (n_v vs 0) 143) j ∧ w_ei ws (w_ar ws (n_v vs 0) 143) j ≤ 1 := fun j h0 h1 => th_el hD hth cr_0_143 (kd := 2) (n := 6000) (m := 6000) (lo := 0) (hi := 1) (rs := []) (L := []) rfl (by decide) (j := j.toNat) (by omega)
  have kz_0_146 : (-2147483648) ≤ w_fi ws (n_v vs 0) 146 ∧ w_fi ws (n_v vs 0) 146 ≤ 2147483647 := tv_rng (th_fd hD hth r0 (g := GG_150) rfl (k := 146) (t := (0, -2147483648, 2147483647, [])) rfl rfl)
  have kz_0_147 : (-2147483648) ≤ w_fi ws (n_v vs 0) 147 ∧ w_fi ws (n_v vs 0) 147 ≤ 2147483647 := tv_rng (th_fd hD hth r0 (g := GG_150) rfl (k := 147) (t := (0, -2147483648, 2147483647, [])) rfl rfl)
  have nf0 : fc_1 PRD (20, [0, 1, 2, 20], [60, 2, 1, 429, 146, 147, 143]) ws (vs) := by
    refine ⟨fun n hn => ?_, ?_⟩
    · have hn : n ∈ [0, 1, 2, 20] := hn
      rw [hl]
      simp only [List.mem_cons, List.not_mem_nil, or_false] at hn
      show n < 23; omega
    · show STQ (w_fi ws (n_v vs 0) 146) (w_fi ws (n_v vs 0) 147) (w_ei ws (w_ar ws (n_v vs 0) 143)) (v_iv (n_v vs 1)) (v_iv (n_v vs 2)) (v_iv (n_v vs 20))
      exact vc_Mo_stepTo_31_0 (v_iv (n_v vs 1)) (v_iv (n_v vs 2)) (v_iv (n_v vs 3)) (v_iv (n_v vs 4)) (v_iv (n_v vs 5)) (v_iv (n_v vs 6)) (v_iv (n_v vs 7)) (v_iv (n_v vs 8)) (v_iv (n_v vs 9)) (v_iv (n_v vs 11)) (v_iv (n_v vs 12)) (v_iv (n_v vs 15)) (v_iv (n_v vs 16)) (v_iv (n_v vs 17)) (v_iv (n_v vs 19)) (v_iv (n_v vs 20)) (v_iv (n_v vs 22)) (w_ei ws (w_ar ws (n_v vs 0) 143)) (w_fi ws (n_v vs 0) 146) (w_fi ws (n_v vs 0) 147) k1 k2 k3 k4 k5 k6 k7 k8 k9 k11 k12 k15 k16 k17 k19 k20 k22 d0 d1 d2 d3 d4 d5 d6 d7 d8 d9 d10 f0 h1 f3 f4 g5 f6 g7 f8 f9 f10 f11 f12 f13 f14 f15 f16 hK_0_143 kz_0_146 kz_0_147
  have nf1 : fc_1 PRD (20, [20, 0], [50, 2, 0, 1146, 1147, 2, 6, 0, 2, 0, -1, 1, 0, 0, 6, 4, 2, 1, 0, 0, 1, 6, 3, 2, 1, 146, 2, 1, 147]) ws (vs) := by
    refine ⟨fun n hn => ?_, ?_⟩
    · have hn : n ∈ [20, 0] := hn
      rw [hl]
      simp only [List.mem_cons, List.not_mem_nil, or_false] at hn
      show n < 23; omega
    · show ((-1) ≤ v_iv (n_v vs 20)) ∧ ((v_iv (n_v vs 20) + 1) ≤ (w_fi ws (n_v vs 0) 146 * w_fi ws (n_v vs 0) 147))
      exact vc_Mo_stepTo_31_1 (v_iv (n_v vs 1)) (v_iv (n_v vs 2)) (v_iv (n_v vs 3)) (v_iv (n_v vs 4)) (v_iv (n_v vs 5)) (v_iv (n_v vs 6)) (v_iv (n_v vs 7)) (v_iv (n_v vs 8)) (v_iv (n_v vs 9)) (v_iv (n_v vs 11)) (v_iv (n_v vs 12)) (v_iv (n_v vs 15)) (v_iv (n_v vs 16)) (v_iv (n_v vs 17)) (v_iv (n_v vs 19)) (v_iv (n_v vs 20)) (v_iv (n_v vs 22)) (w_ei ws (w_ar ws (n_v vs 0) 143)) (w_fi ws (n_v vs 0) 146) (w_fi ws (n_v vs 0) 147) k1 k2 k3 k4 k5 k6 k7 k8 k9 k11 k12 k15 k16 k17 k19 k20 k22 d0 d1 d2 d3 d4 d5 d6 d7 d8 d9 d10 f0 h1 f3 f4 g5 f6 g7 f8 f9 f10 f11 f12 f13 f14 f15 f16 hK_0_143 kz_0_146 kz_0_147
  refine ⟨(fun _ h => (by cases h)), [], trivial, ?_, (fun _ h => (by cases h))⟩
  rw [List.append_nil]
  exact List.forall_mem_cons.mpr ⟨⟨show (20 : Nat) < 100 from by decide, nf0⟩, List.forall_mem_cons.mpr ⟨⟨show (20 : Nat) < 100 from by decide, nf1⟩, (fun _ h => (by cases h))⟩⟩
set_option maxHeartbeats 4000000 in
theorem vc_Mo_stepTo_32_0 (x1 : Int) (x2 : Int) (x3 : Int) (x4 : Int) (x5 : Int) (x6 : Int) (x7 : Int) (x8 : Int) (x9 : Int) (x11 : Int) (x12 : Int) (x15 : Int) (x16 : Int) (x17 : Int) (x19 : Int) (x20 : Int) (x22 : Int) (x23 : Int) (barredPoint_0 : Int → Int) (wide_0 : Int) (tall_0 : Int) (k1 : 0 ≤ x1 ∧ x1 ≤ 5999) (k2 : 0 ≤ x2 ∧ x2 ≤ 0) (k3 : 1 ≤ x3 ∧ x3 ≤ 6000) (k4 : 0 ≤ x4 ∧ x4 ≤ 5999) (k5 : 1 ≤ x5 ∧ x5 ≤ 1) (k6 : 1 ≤ x6 ∧ x6 ≤ 5999) (k7 : 0 ≤ x7 ∧ x7 ≤ 5999) (k8 : 0 ≤ x8 ∧ x8 ≤ 0) (k9 : 0 ≤ x9 ∧ x9 ≤ 5999) (k11 : 1 ≤ x11 ∧ x11 ≤ 1) (k12 : 1 ≤ x12 ∧ x12 ≤ 5999) (k15 : 1 ≤ x15 ∧ x15 ≤ 6000) (k16 : 1 ≤ x16 ∧ x16 ≤ 1) (k17 : 0 ≤ x17 ∧ x17 ≤ 5999) (k19 : 0 ≤ x19 ∧ x19 ≤ 35994000) (k20 : 1 ≤ x20 ∧ x20 ≤ 5999) (k22 : 1 ≤ x22 ∧ x22 ≤ 1) (k23 : (-1) ≤ x23 ∧ x23 ≤ (-1)) (d0 : x6 + 0 ≤ x20 ∧ x20 ≤ x6 + 35994000) (d1 : x4 + 1 ≤ x20 ∧ x20 ≤ x4 + 35994001) (d2 : x19 + 1 ≤ x20 ∧ x20 ≤ x19 + 5999) (d3 : x17 + (-4294967296) ≤ x9 ∧ x9 ≤ x17 + 0) (d4 : x15 + (-1) ≤ x17 ∧ x17 ≤ x15 + (-1)) (d5 : x12 + (-4294967296) ≤ x6 ∧ x6 ≤ x12 + 0) (d6 : x3 + (-1) ≤ x12 ∧ x12 ≤ x3 + (-1)) (d7 : x7 + 0 ≤ x9 ∧ x9 ≤ x7 + 0) (d8 : x4 + 1 ≤ x6 ∧ x6 ≤ x4 + 1) (d9 : x3 + (-4294967294) ≤ x6 ∧ x6 ≤ x3 + 0) (d10 : x3 + (-4294967295) ≤ x4 ∧ x4 ≤ x3 + (-1)) (f0 : x22 ≠ 0) (h1 : x22 = barredPoint_0 (x20)) (f3 : x20 = x19 + x6) (f4 : x19 = x9 * x3) (g5 : x3 = wide_0) (f6 : x17 = x15 - x16) (g7 : x15 = tall_0) (f8 : x12 = x3 - x11) (f9 : x9 = x7 + x8) (f10 : ((x2 = 1) ∧ (x8 = 1)) ∨ (((x2 = 3) ∧ (x8 = (-1))) ∨ ((x2 ≠ 1) ∧ ((x2 ≠ 3) ∧ (x8 = 0))))) (f11 : x7 = Int.tdiv (x1) (x3)) (f12 : x6 = x4 + x5) (f13 : ((x2 = 0) ∧ (x5 = 1)) ∨ (((x2 = 2) ∧ (x5 = (-1))) ∨ ((x2 ≠ 0) ∧ ((x2 ≠ 2) ∧ (x5 = 0))))) (f14 : x4 = Int.tmod (x1) (x3)) (f15 : GRX (wide_0) (tall_0)) (f16 : (0 ≤ x1) ∧ ((x1 + 1) ≤ (wide_0 * tall_0))) (hK_0_143 : ∀ j : Int, 0 ≤ j → j < 6000 → 0 ≤ barredPoint_0 j ∧ barredPoint_0 j ≤ 1) (kz_0_146 : (-2147483648) ≤ wide_0 ∧ wide_0 ≤ 2147483647) (kz_0_147 : (-2147483648) ≤ tall_0 ∧ tall_0 ≤ 2147483647) : STQ (wide_0) (tall_0) (barredPoint_0) (x1) (x2) (x23) := by
  have g := gok_bd ‹GRX _ _›
  have e3 : x3 = wide_0 := by assumption
  have tm : x4 = x1 % wide_0 := by rw [← e3, ‹x4 = Int.tmod x1 x3›]; exact Int.tmod_eq_emod_of_nonneg (by omega)
  have td : x7 = x1 / wide_0 := by rw [← e3, ‹x7 = Int.tdiv x1 x3›]; exact Int.tdiv_eq_ediv_of_nonneg (by omega)
  have hx : x6 = x1 % wide_0 + dxf x2 := by rw [← tm]; unfold dxf; split; omega; split <;> omega
  have hy : x9 = x1 / wide_0 + dyf x2 := by rw [← td]; unfold dyf; split; omega; split <;> omega
  first
    | exact stq_none hx hy (by omega) (by omega)
    | exact stq_ok (q := x20) (v := x22) (stq_cell (r := x19) hx hy (by omega) (by rw [← e3]; assumption) (by assumption)) (by omega) (by assumption) (by omega) rfl
    | exact stq_bar (q := x20) (v := x22) (stq_cell (r := x19) hx hy (by omega) (by rw [← e3]; assumption) (by assumption)) (by assumption) (by omega) (by omega)
set_option maxHeartbeats 4000000 in
theorem vc_Mo_stepTo_32_1 (x1 : Int) (x2 : Int) (x3 : Int) (x4 : Int) (x5 : Int) (x6 : Int) (x7 : Int) (x8 : Int) (x9 : Int) (x11 : Int) (x12 : Int) (x15 : Int) (x16 : Int) (x17 : Int) (x19 : Int) (x20 : Int) (x22 : Int) (x23 : Int) (barredPoint_0 : Int → Int) (wide_0 : Int) (tall_0 : Int) (k1 : 0 ≤ x1 ∧ x1 ≤ 5999) (k2 : 0 ≤ x2 ∧ x2 ≤ 0) (k3 : 1 ≤ x3 ∧ x3 ≤ 6000) (k4 : 0 ≤ x4 ∧ x4 ≤ 5999) (k5 : 1 ≤ x5 ∧ x5 ≤ 1) (k6 : 1 ≤ x6 ∧ x6 ≤ 5999) (k7 : 0 ≤ x7 ∧ x7 ≤ 5999) (k8 : 0 ≤ x8 ∧ x8 ≤ 0) (k9 : 0 ≤ x9 ∧ x9 ≤ 5999) (k11 : 1 ≤ x11 ∧ x11 ≤ 1) (k12 : 1 ≤ x12 ∧ x12 ≤ 5999) (k15 : 1 ≤ x15 ∧ x15 ≤ 6000) (k16 : 1 ≤ x16 ∧ x16 ≤ 1) (k17 : 0 ≤ x17 ∧ x17 ≤ 5999) (k19 : 0 ≤ x19 ∧ x19 ≤ 35994000) (k20 : 1 ≤ x20 ∧ x20 ≤ 5999) (k22 : 1 ≤ x22 ∧ x22 ≤ 1) (k23 : (-1) ≤ x23 ∧ x23 ≤ (-1)) (d0 : x6 + 0 ≤ x20 ∧ x20 ≤ x6 + 35994000) (d1 : x4 + 1 ≤ x20 ∧ x20 ≤ x4 + 35994001) (d2 : x19 + 1 ≤ x20 ∧ x20 ≤ x19 + 5999) (d3 : x17 + (-4294967296) ≤ x9 ∧ x9 ≤ x17 + 0) (d4 : x15 + (-1) ≤ x17 ∧ x17 ≤ x15 + (-1)) (d5 : x12 + (-4294967296) ≤ x6 ∧ x6 ≤ x12 + 0) (d6 : x3 + (-1) ≤ x12 ∧ x12 ≤ x3 + (-1)) (d7 : x7 + 0 ≤ x9 ∧ x9 ≤ x7 + 0) (d8 : x4 + 1 ≤ x6 ∧ x6 ≤ x4 + 1) (d9 : x3 + (-4294967294) ≤ x6 ∧ x6 ≤ x3 + 0) (d10 : x3 + (-4294967295) ≤ x4 ∧ x4 ≤ x3 + (-1)) (f0 : x22 ≠ 0) (h1 : x22 = barredPoint_0 (x20)) (f3 : x20 = x19 + x6) (f4 : x19 = x9 * x3) (g5 : x3 = wide_0) (f6 : x17 = x15 - x16) (g7 : x15 = tall_0) (f8 : x12 = x3 - x11) (f9 : x9 = x7 + x8) (f10 : ((x2 = 1) ∧ (x8 = 1)) ∨ (((x2 = 3) ∧ (x8 = (-1))) ∨ ((x2 ≠ 1) ∧ ((x2 ≠ 3) ∧ (x8 = 0))))) (f11 : x7 = Int.tdiv (x1) (x3)) (f12 : x6 = x4 + x5) (f13 : ((x2 = 0) ∧ (x5 = 1)) ∨ (((x2 = 2) ∧ (x5 = (-1))) ∨ ((x2 ≠ 0) ∧ ((x2 ≠ 2) ∧ (x5 = 0))))) (f14 : x4 = Int.tmod (x1) (x3)) (f15 : GRX (wide_0) (tall_0)) (f16 : (0 ≤ x1) ∧ ((x1 + 1) ≤ (wide_0 * tall_0))) (hK_0_143 : ∀ j : Int, 0 ≤ j → j < 6000 → 0 ≤ barredPoint_0 j ∧ barredPoint_0 j ≤ 1) (kz_0_146 : (-2147483648) ≤ wide_0 ∧ wide_0 ≤ 2147483647) (kz_0_147 : (-2147483648) ≤ tall_0 ∧ tall_0 ≤ 2147483647) : ((-1) ≤ x23) ∧ ((x23 + 1) ≤ (wide_0 * tall_0)) := by
  first
    | omega
    | (have g := gok_bd ‹GRX _ _›; omega)
    | (have g := gok_bd ‹GRX _ _›
       have c := cell_ix (W := x3) (T := x15) (x := x6) (y := x9) (p := x20) (by omega) (by omega) (by omega) (by omega) (by omega) (by rw [‹x20 = x19 + x6›, ‹x19 = x9 * x3›])
       have e3 : x3 = wide_0 := by assumption
       have e15 : x15 = tall_0 := by assumption
       have g3 := ‹GRX _ _›.2.2
       rw [e3, e15] at c
       omega)
def o_Mo_stepTo_32 : or_T := (83, 24, [(0, (2, 0, 0, [150])), (1, (0, 0, 5999, [])), (2, (0, 0, 0, [])), (3, (0, 1, 6000, [])), (4, (0, 0, 5999, [])), (5, (0, 1, 1, [])), (6, (0, 1, 5999, [])), (7, (0, 0, 5999, [])), (8, (0, 0, 0, [])), (9, (0, 0, 5999, [])), (11, (0, 1, 1, [])), (12, (0, 1, 5999, [])), (15, (0, 1, 6000, [])), (16, (0, 1, 1, [])), (17, (0, 0, 5999, [])), (19, (0, 0, 35994000, [])), (20, (0, 1, 5999, [])), (21, (2, 0, 0, [254])), (22, (0, 1, 1, [])), (23, (0, -1, -1, []))], [(8, [22], [1]), (10, [22, 21, 20], []), (9, [21, 0], [143]), (1, [20, 19, 6], []), (3, [19, 9, 3], []), (9, [3, 0], [146]), (2, [17, 15, 16], []), (9, [15, 0], [147]), (2, [12, 3, 11], []), (1, [9, 7, 8], []), (20, [2, 8], [50, 0, 0, 3, 14, 2, 6, 1, 2, 1, 0, 0, 1, 1, 2, 1, 1, 0, 1, 3, 14, 2, 6, 1, 2, 1, 0, 0, 3, 1, 2, 1, 1, 0, -1, 2, 6, 7, 2, 1, 0, 0, 1, 2, 6, 7, 2, 1, 0, 0, 3, 1, 2, 1, 1, 0, 0]), (4, [7, 1, 3], []), (1, [6, 4, 5], []), (20, [2, 5], [50, 0, 0, 3, 14, 2, 6, 1, 2, 1, 0, 0, 0, 1, 2, 1, 1, 0, 1, 3, 14, 2, 6, 1, 2, 1, 0, 0, 2, 1, 2, 1, 1, 0, -1, 2, 6, 7, 2, 1, 0, 0, 0, 2, 6, 7, 2, 1, 0, 0, 2, 1, 2, 1, 1, 0, 0]), (5, [4, 1, 3], []), (20, [0], [60, 2, 0, 418, 146, 147]), (20, [1, 0], [50, 2, 0, 1146, 1147, 2, 6, 0, 2, 0, 0, 1, 0, 0, 6, 4, 2, 1, 0, 0, 1, 6, 3, 2, 1, 146, 2, 1, 147])], [], [], [(20, [0, 1, 2, 23], [60, 2, 1, 429, 146, 147, 143]), (20, [23, 0], [50, 2, 0, 1146, 1147, 2, 6, 0, 2, 0, -1, 1, 0, 0, 6, 4, 2, 1, 0, 0, 1, 6, 3, 2, 1, 146, 2, 1, 147])], [], [(20, 6, 0, 35994000), (20, 4, 1, 35994001), (20, 19, 1, 5999), (9, 17, -4294967296, 0), (17, 15, -1, -1), (6, 12, -4294967296, 0), (12, 3, -1, -1), (9, 7, 0, 0), (6, 4, 1, 1), (6, 3, -4294967294, 0), (4, 3, -4294967295, -1)])
theorem oo_Mo_stepTo_32 {kA : Nat → ClassId} : or_ok PRD kA GG o_Mo_stepTo_32 := by
  intro A ta ws vs hD hth hl hk hds hf
  have hl : vs.length = 24 := hl
  have hk : ∀ q ∈ ([(0, (2, 0, 0, [150])), (1, (0, 0, 5999, [])), (2, (0, 0, 0, [])), (3, (0, 1, 6000, [])), (4, (0, 0, 5999, [])), (5, (0, 1, 1, [])), (6, (0, 1, 5999, [])), (7, (0, 0, 5999, [])), (8, (0, 0, 0, [])), (9, (0, 0, 5999, [])), (11, (0, 1, 1, [])), (12, (0, 1, 5999, [])), (15, (0, 1, 6000, [])), (16, (0, 1, 1, [])), (17, (0, 0, 5999, [])), (19, (0, 0, 35994000, [])), (20, (0, 1, 5999, [])), (21, (2, 0, 0, [254])), (22, (0, 1, 1, [])), (23, (0, -1, -1, []))] : List (Nat × tv_T)), tv_ok ta q.2 (n_v vs q.1) := hk
  obtain ⟨t0, hk⟩ := List.forall_mem_cons.mp hk
  have t0 : tv_ok ta (2, 0, 0, [150]) (n_v vs 0) := t0
  have r0 : ta (v_ad (n_v vs 0)) = some 150 := tv_rg t0
  obtain ⟨t1, hk⟩ := List.forall_mem_cons.mp hk
  have t1 : tv_ok ta (0, 0, 5999, []) (n_v vs 1) := t1
  have k1 : 0 ≤ v_iv (n_v vs 1) ∧ v_iv (n_v vs 1) ≤ 5999 := tv_rng t1
  obtain ⟨t2, hk⟩ := List.forall_mem_cons.mp hk
  have t2 : tv_ok ta (0, 0, 0, []) (n_v vs 2) := t2
  have k2 : 0 ≤ v_iv (n_v vs 2) ∧ v_iv (n_v vs 2) ≤ 0 := tv_rng t2
  obtain ⟨t3, hk⟩ := List.forall_mem_cons.mp hk
  have t3 : tv_ok ta (0, 1, 6000, []) (n_v vs 3) := t3
  have k3 : 1 ≤ v_iv (n_v vs 3) ∧ v_iv (n_v vs 3) ≤ 6000 := tv_rng t3
  obtain ⟨t4, hk⟩ := List.forall_mem_cons.mp hk
  have t4 : tv_ok ta (0, 0, 5999, []) (n_v vs 4) := t4
  have k4 : 0 ≤ v_iv (n_v vs 4) ∧ v_iv (n_v vs 4) ≤ 5999 := tv_rng t4
  obtain ⟨t5, hk⟩ := List.forall_mem_cons.mp hk
  have t5 : tv_ok ta (0, 1, 1, []) (n_v vs 5) := t5
  have k5 : 1 ≤ v_iv (n_v vs 5) ∧ v_iv (n_v vs 5) ≤ 1 := tv_rng t5
  obtain ⟨t6, hk⟩ := List.forall_mem_cons.mp hk
  have t6 : tv_ok ta (0, 1, 5999, []) (n_v vs 6) := t6
  have k6 : 1 ≤ v_iv (n_v vs 6) ∧ v_iv (n_v vs 6) ≤ 5999 := tv_rng t6
  obtain ⟨t7, hk⟩ := List.forall_mem_cons.mp hk
  have t7 : tv_ok ta (0, 0, 5999, []) (n_v vs 7) := t7
  have k7 : 0 ≤ v_iv (n_v vs 7) ∧ v_iv (n_v vs 7) ≤ 5999 := tv_rng t7
  obtain ⟨t8, hk⟩ := List.forall_mem_cons.mp hk
  have t8 : tv_ok ta (0, 0, 0, []) (n_v vs 8) := t8
  have k8 : 0 ≤ v_iv (n_v vs 8) ∧ v_iv (n_v vs 8) ≤ 0 := tv_rng t8
  obtain ⟨t9, hk⟩ := List.forall_mem_cons.mp hk
  have t9 : tv_ok ta (0, 0, 5999, []) (n_v vs 9) := t9
  have k9 : 0 ≤ v_iv (n_v vs 9) ∧ v_iv (n_v vs 9) ≤ 5999 := tv_rng t9
  obtain ⟨t11, hk⟩ := List.forall_mem_cons.mp hk
  have t11 : tv_ok ta (0, 1, 1, []) (n_v vs 11) := t11
  have k11 : 1 ≤ v_iv (n_v vs 11) ∧ v_iv (n_v vs 11) ≤ 1 := tv_rng t11
  obtain ⟨t12, hk⟩ := List.forall_mem_cons.mp hk
  have t12 : tv_ok ta (0, 1, 5999, []) (n_v vs 12) := t12
  have k12 : 1 ≤ v_iv (n_v vs 12) ∧ v_iv (n_v vs 12) ≤ 5999 := tv_rng t12
  obtain ⟨t15, hk⟩ := List.forall_mem_cons.mp hk
  have t15 : tv_ok ta (0, 1, 6000, []) (n_v vs 15) := t15
  have k15 : 1 ≤ v_iv (n_v vs 15) ∧ v_iv (n_v vs 15) ≤ 6000 := tv_rng t15
  obtain ⟨t16, hk⟩ := List.forall_mem_cons.mp hk
  have t16 : tv_ok ta (0, 1, 1, []) (n_v vs 16) := t16
  have k16 : 1 ≤ v_iv (n_v vs 16) ∧ v_iv (n_v vs 16) ≤ 1 := tv_rng t16
  obtain ⟨t17, hk⟩ := List.forall_mem_cons.mp hk
  have t17 : tv_ok ta (0, 0, 5999, []) (n_v vs 17) := t17
  have k17 : 0 ≤ v_iv (n_v vs 17) ∧ v_iv (n_v vs 17) ≤ 5999 := tv_rng t17
  obtain ⟨t19, hk⟩ := List.forall_mem_cons.mp hk
  have t19 : tv_ok ta (0, 0, 35994000, []) (n_v vs 19) := t19
  have k19 : 0 ≤ v_iv (n_v vs 19) ∧ v_iv (n_v vs 19) ≤ 35994000 := tv_rng t19
  obtain ⟨t20, hk⟩ := List.forall_mem_cons.mp hk
  have t20 : tv_ok ta (0, 1, 5999, []) (n_v vs 20) := t20
  have k20 : 1 ≤ v_iv (n_v vs 20) ∧ v_iv (n_v vs 20) ≤ 5999 := tv_rng t20
  obtain ⟨t21, hk⟩ := List.forall_mem_cons.mp hk
  have t21 : tv_ok ta (2, 0, 0, [254]) (n_v vs 21) := t21
  have r21 : ta (v_ad (n_v vs 21)) = some 254 := tv_rg t21
  obtain ⟨t22, hk⟩ := List.forall_mem_cons.mp hk
  have t22 : tv_ok ta (0, 1, 1, []) (n_v vs 22) := t22
  have k22 : 1 ≤ v_iv (n_v vs 22) ∧ v_iv (n_v vs 22) ≤ 1 := tv_rng t22
  obtain ⟨t23, hk⟩ := List.forall_mem_cons.mp hk
  have t23 : tv_ok ta (0, -1, -1, []) (n_v vs 23) := t23
  have k23 : (-1) ≤ v_iv (n_v vs 23) ∧ v_iv (n_v vs 23) ≤ (-1) := tv_rng t23
  have hds : ∀ q ∈ ([(20, 6, 0, 35994000), (20, 4, 1, 35994001), (20, 19, 1, 5999), (9, 17, -4294967296, 0), (17, 15, -1, -1), (6, 12, -4294967296, 0), (12, 3, -1, -1), (9, 7, 0, 0), (6, 4, 1, 1), (6, 3, -4294967294, 0), (4, 3, -4294967295, -1)] : List of_T), n_iv vs q.2.1 + q.2.2.1 ≤ n_iv vs q.1 ∧ n_iv vs q.1 ≤ n_iv vs q.2.1 + q.2.2.2 := hds
  obtain ⟨d0, hds⟩ := List.forall_mem_cons.mp hds
  have d0 : v_iv (n_v vs 6) + 0 ≤ v_iv (n_v vs 20) ∧ v_iv (n_v vs 20) ≤ v_iv (n_v vs 6) + 35994000 := d0
  obtain ⟨d1, hds⟩ := List.forall_mem_cons.mp hds
  have d1 : v_iv (n_v vs 4) + 1 ≤ v_iv (n_v vs 20) ∧ v_iv (n_v vs 20) ≤ v_iv (n_v vs 4) + 35994001 := d1
  obtain ⟨d2, hds⟩ := List.forall_mem_cons.mp hds
  have d2 : v_iv (n_v vs 19) + 1 ≤ v_iv (n_v vs 20) ∧ v_iv (n_v vs 20) ≤ v_iv (n_v vs 19) + 5999 := d2
  obtain ⟨d3, hds⟩ := List.forall_mem_cons.mp hds
  have d3 : v_iv (n_v vs 17) + (-4294967296) ≤ v_iv (n_v vs 9) ∧ v_iv (n_v vs 9) ≤ v_iv (n_v vs 17) + 0 := d3
  obtain ⟨d4, hds⟩ := List.forall_mem_cons.mp hds
  have d4 : v_iv (n_v vs 15) + (-1) ≤ v_iv (n_v vs 17) ∧ v_iv (n_v vs 17) ≤ v_iv (n_v vs 15) + (-1) := d4
  obtain ⟨d5, hds⟩ := List.forall_mem_cons.mp hds
  have d5 : v_iv (n_v vs 12) + (-4294967296) ≤ v_iv (n_v vs 6) ∧ v_iv (n_v vs 6) ≤ v_iv (n_v vs 12) + 0 := d5
  obtain ⟨d6, hds⟩ := List.forall_mem_cons.mp hds
  have d6 : v_iv (n_v vs 3) + (-1) ≤ v_iv (n_v vs 12) ∧ v_iv (n_v vs 12) ≤ v_iv (n_v vs 3) + (-1) := d6
  obtain ⟨d7, hds⟩ := List.forall_mem_cons.mp hds
  have d7 : v_iv (n_v vs 7) + 0 ≤ v_iv (n_v vs 9) ∧ v_iv (n_v vs 9) ≤ v_iv (n_v vs 7) + 0 := d7
  obtain ⟨d8, hds⟩ := List.forall_mem_cons.mp hds
  have d8 : v_iv (n_v vs 4) + 1 ≤ v_iv (n_v vs 6) ∧ v_iv (n_v vs 6) ≤ v_iv (n_v vs 4) + 1 := d8
  obtain ⟨d9, hds⟩ := List.forall_mem_cons.mp hds
  have d9 : v_iv (n_v vs 3) + (-4294967294) ≤ v_iv (n_v vs 6) ∧ v_iv (n_v vs 6) ≤ v_iv (n_v vs 3) + 0 := d9
  obtain ⟨d10, hds⟩ := List.forall_mem_cons.mp hds
  have d10 : v_iv (n_v vs 3) + (-4294967295) ≤ v_iv (n_v vs 4) ∧ v_iv (n_v vs 4) ≤ v_iv (n_v vs 3) + (-1) := d10
  have hf : fc_ok PRD [(8, [22], [1]), (10, [22, 21, 20], []), (9, [21, 0], [143]), (1, [20, 19, 6], []), (3, [19, 9, 3], []), (9, [3, 0], [146]), (2, [17, 15, 16], []), (9, [15, 0], [147]), (2, [12, 3, 11], []), (1, [9, 7, 8], []), (20, [2, 8], [50, 0, 0, 3, 14, 2, 6, 1, 2, 1, 0, 0, 1, 1, 2, 1, 1, 0, 1, 3, 14, 2, 6, 1, 2, 1, 0, 0, 3, 1, 2, 1, 1, 0, -1, 2, 6, 7, 2, 1, 0, 0, 1, 2, 6, 7, 2, 1, 0, 0, 3, 1, 2, 1, 1, 0, 0]), (4, [7, 1, 3], []), (1, [6, 4, 5], []), (20, [2, 5], [50, 0, 0, 3, 14, 2, 6, 1, 2, 1, 0, 0, 0, 1, 2, 1, 1, 0, 1, 3, 14, 2, 6, 1, 2, 1, 0, 0, 2, 1, 2, 1, 1, 0, -1, 2, 6, 7, 2, 1, 0, 0, 0, 2, 6, 7, 2, 1, 0, 0, 2, 1, 2, 1, 1, 0, 0]), (5, [4, 1, 3], []), (20, [0], [60, 2, 0, 418, 146, 147]), (20, [1, 0], [50, 2, 0, 1146, 1147, 2, 6, 0, 2, 0, 0, 1, 0, 0, 6, 4, 2, 1, 0, 0, 1, 6, 3, 2, 1, 146, 2, 1, 147])] ta ws vs := hf
  obtain ⟨f0, hf⟩ := fc_un (show (8 : Nat) < 100 from by decide) hf
  have f0 : v_iv (n_v vs 22) ≠ 0 := f0
  obtain ⟨f1, hf⟩ := fc_un (show (10 : Nat) < 100 from by decide) hf
  have f1 : v_iv (n_v vs 22) = w_el ws (v_ad (n_v vs 21)) (v_iv (n_v vs 20)).toNat := f1
  obtain ⟨f2, hf⟩ := fc_un (show (9 : Nat) < 100 from by decide) hf
  have f2 : n_v vs 21 = w_fd ws (v_ad (n_v vs 0)) 143 := f2
  obtain ⟨f3, hf⟩ := fc_un (show (1 : Nat) < 100 from by decide) hf
  have f3 : v_iv (n_v vs 20) = v_iv (n_v vs 19) + v_iv (n_v vs 6) := f3
  obtain ⟨f4, hf⟩ := fc_un (show (3 : Nat) < 100 from by decide) hf
  have f4 : v_iv (n_v vs 19) = v_iv (n_v vs 9) * v_iv (n_v vs 3) := f4
  obtain ⟨f5, hf⟩ := fc_un (show (9 : Nat) < 100 from by decide) hf
  have f5 : n_v vs 3 = w_fd ws (v_ad (n_v vs 0)) 146 := f5
  obtain ⟨f6, hf⟩ := fc_un (show (2 : Nat) < 100 from by decide) hf
  have f6 : v_iv (n_v vs 17) = v_iv (n_v vs 15) - v_iv (n_v vs 16) := f6
  obtain ⟨f7, hf⟩ := fc_un (show (9 : Nat) < 100 from by decide) hf
  have f7 : n_v vs 15 = w_fd ws (v_ad (n_v vs 0)) 147 := f7
  obtain ⟨f8, hf⟩ := fc_un (show (2 : Nat) < 100 from by decide) hf
  have f8 : v_iv (n_v vs 12) = v_iv (n_v vs 3) - v_iv (n_v vs 11) := f8
  obtain ⟨f9, hf⟩ := fc_un (show (1 : Nat) < 100 from by decide) hf
  have f9 : v_iv (n_v vs 9) = v_iv (n_v vs 7) + v_iv (n_v vs 8) := f9
  obtain ⟨f10, hf⟩ := fc_un (show (20 : Nat) < 100 from by decide) hf
  have f10 : ((v_iv (n_v vs 2) = 1) ∧ (v_iv (n_v vs 8) = 1)) ∨ (((v_iv (n_v vs 2) = 3) ∧ (v_iv (n_v vs 8) = (-1))) ∨ ((v_iv (n_v vs 2) ≠ 1) ∧ ((v_iv (n_v vs 2) ≠ 3) ∧ (v_iv (n_v vs 8) = 0)))) := f10
  obtain ⟨f11, hf⟩ := fc_un (show (4 : Nat) < 100 from by decide) hf
  have f11 : v_iv (n_v vs 7) = Int.tdiv (v_iv (n_v vs 1)) (v_iv (n_v vs 3)) := f11
  have fq11 : 10 ≤ v_iv (n_v vs 7) → 10 * v_iv (n_v vs 3) ≤ v_iv (n_v vs 1) := dv_ten f11 (by omega) (by omega)
  obtain ⟨f12, hf⟩ := fc_un (show (1 : Nat) < 100 from by decide) hf
  have f12 : v_iv (n_v vs 6) = v_iv (n_v vs 4) + v_iv (n_v vs 5) := f12
  obtain ⟨f13, hf⟩ := fc_un (show (20 : Nat) < 100 from by decide) hf
  have f13 : ((v_iv (n_v vs 2) = 0) ∧ (v_iv (n_v vs 5) = 1)) ∨ (((v_iv (n_v vs 2) = 2) ∧ (v_iv (n_v vs 5) = (-1))) ∨ ((v_iv (n_v vs 2) ≠ 0) ∧ ((v_iv (n_v vs 2) ≠ 2) ∧ (v_iv (n_v vs 5) = 0)))) := f13
  obtain ⟨f14, hf⟩ := fc_un (show (5 : Nat) < 100 from by decide) hf
  have f14 : v_iv (n_v vs 4) = Int.tmod (v_iv (n_v vs 1)) (v_iv (n_v vs 3)) := f14
  obtain ⟨f15, hf⟩ := fc_un (show (20 : Nat) < 100 from by decide) hf
  have f15 : GRX (w_fi ws (n_v vs 0) 146) (w_fi ws (n_v vs 0) 147) := f15
  obtain ⟨f16, hf⟩ := fc_un (show (20 : Nat) < 100 from by decide) hf
  have f16 : (0 ≤ v_iv (n_v vs 1)) ∧ ((v_iv (n_v vs 1) + 1) ≤ (w_fi ws (n_v vs 0) 146 * w_fi ws (n_v vs 0) 147)) := f16
  have cr_0_143 : ta (w_ar ws (n_v vs 0) 143) = some 254 := tv_rg (th_fd hD hth r0 (g := GG_150) rfl (k := 143) (t := (2, 0, 0, [254])) rfl rfl)
  have ad_21 : v_ad (n_v vs 21) = w_ar ws (n_v vs 0) 143 := congrArg v_ad f2
  rw [ad_21] at f1
  have h1 : v_iv (n_v vs 22) = w_ei ws (w_ar ws (n_v vs 0) 143) (v_iv (n_v vs 20)) := f1
  have g5 : v_iv (n_v vs 3) = w_fi ws (n_v vs 0) 146 := congrArg v_iv f5
  have g7 : v_iv (n_v vs 15) = w_fi ws (n_v vs 0) 147 := congrArg v_iv f7
  have hK_0_143 : ∀ j : Int, 0 ≤ j → j < 6000 → 0 ≤ w_ei ws (w_ar ws (n_v vs 0) 143) j ∧ w_ei ws (w_ar ws (n_v vs 0) 143) j ≤ 1 := fun j h0 h1 => th_el hD hth cr_0_143 (kd := 2) (n := 6000) (m := 6000) (lo := 0) (hi := 1) (rs := []) (L := []) rfl (by decide) (j := j.toNat) (by omega)
  have kz_0_146 : (-2147483648) ≤ w_fi ws (n_v vs 0) 146 ∧ w_fi ws (n_v vs 0) 146 ≤ 2147483647 := tv_rng (th_fd hD hth r0 (g := GG_150) rfl (k := 146) (t := (0, -2147483648, 2147483647, [])) rfl rfl)
  have kz_0_147 : (-2147483648) ≤ w_fi ws (n_v vs 0) 147 ∧ w_fi ws (n_v vs 0) 147 ≤ 2147483647 := tv_rng (th_fd hD hth r0 (g := GG_150) rfl (k := 147) (t := (0, -2147483648, 2147483647, [])) rfl rfl)
  have nf0 : fc_1 PRD (20, [0, 1, 2, 23], [60, 2, 1, 429, 146, 147, 143]) ws (vs) := by
    refine ⟨fun n hn => ?_, ?_⟩
    · have hn : n ∈ [0, 1, 2, 23] := hn
      rw [hl]
      simp only [List.mem_cons, List.not_mem_nil, or_false] at hn
      show n < 24; omega
    · show STQ (w_fi ws (n_v vs 0) 146) (w_fi ws (n_v vs 0) 147) (w_ei ws (w_ar ws (n_v vs 0) 143)) (v_iv (n_v vs 1)) (v_iv (n_v vs 2)) (v_iv (n_v vs 23))
      exact vc_Mo_stepTo_32_0 (v_iv (n_v vs 1)) (v_iv (n_v vs 2)) (v_iv (n_v vs 3)) (v_iv (n_v vs 4)) (v_iv (n_v vs 5)) (v_iv (n_v vs 6)) (v_iv (n_v vs 7)) (v_iv (n_v vs 8)) (v_iv (n_v vs 9)) (v_iv (n_v vs 11)) (v_iv (n_v vs 12)) (v_iv (n_v vs 15)) (v_iv (n_v vs 16)) (v_iv (n_v vs 17)) (v_iv (n_v vs 19)) (v_iv (n_v vs 20)) (v_iv (n_v vs 22)) (v_iv (n_v vs 23)) (w_ei ws (w_ar ws (n_v vs 0) 143)) (w_fi ws (n_v vs 0) 146) (w_fi ws (n_v vs 0) 147) k1 k2 k3 k4 k5 k6 k7 k8 k9 k11 k12 k15 k16 k17 k19 k20 k22 k23 d0 d1 d2 d3 d4 d5 d6 d7 d8 d9 d10 f0 h1 f3 f4 g5 f6 g7 f8 f9 f10 f11 f12 f13 f14 f15 f16 hK_0_143 kz_0_146 kz_0_147
  have nf1 : fc_1 PRD (20, [23, 0], [50, 2, 0, 1146, 1147, 2, 6, 0, 2, 0, -1, 1, 0, 0, 6, 4, 2, 1, 0, 0, 1, 6, 3, 2, 1, 146, 2, 1, 147]) ws (vs) := by
    refine ⟨fun n hn => ?_, ?_⟩
    · have hn : n ∈ [23, 0] := hn
      rw [hl]
      simp only [List.mem_cons, List.not_mem_nil, or_false] at hn
      show n < 24; omega
    · show ((-1) ≤ v_iv (n_v vs 23)) ∧ ((v_iv (n_v vs 23) + 1) ≤ (w_fi ws (n_v vs 0) 146 * w_fi ws (n_v vs 0) 147))
      exact vc_Mo_stepTo_32_1 (v_iv (n_v vs 1)) (v_iv (n_v vs 2)) (v_iv (n_v vs 3)) (v_iv (n_v vs 4)) (v_iv (n_v vs 5)) (v_iv (n_v vs 6)) (v_iv (n_v vs 7)) (v_iv (n_v vs 8)) (v_iv (n_v vs 9)) (v_iv (n_v vs 11)) (v_iv (n_v vs 12)) (v_iv (n_v vs 15)) (v_iv (n_v vs 16)) (v_iv (n_v vs 17)) (v_iv (n_v vs 19)) (v_iv (n_v vs 20)) (v_iv (n_v vs 22)) (v_iv (n_v vs 23)) (w_ei ws (w_ar ws (n_v vs 0) 143)) (w_fi ws (n_v vs 0) 146) (w_fi ws (n_v vs 0) 147) k1 k2 k3 k4 k5 k6 k7 k8 k9 k11 k12 k15 k16 k17 k19 k20 k22 k23 d0 d1 d2 d3 d4 d5 d6 d7 d8 d9 d10 f0 h1 f3 f4 g5 f6 g7 f8 f9 f10 f11 f12 f13 f14 f15 f16 hK_0_143 kz_0_146 kz_0_147
  refine ⟨(fun _ h => (by cases h)), [], trivial, ?_, (fun _ h => (by cases h))⟩
  rw [List.append_nil]
  exact List.forall_mem_cons.mpr ⟨⟨show (20 : Nat) < 100 from by decide, nf0⟩, List.forall_mem_cons.mpr ⟨⟨show (20 : Nat) < 100 from by decide, nf1⟩, (fun _ h => (by cases h))⟩⟩
def n_Mo_stepTo_an : List an_T := []
def t_Mo_stepTo_ct : ct_L := [(0, 387, e_Mo_in), (0, 1064, e_Mo_dx), (0, 1067, e_Mo_dy)]
set_option maxRecDepth 100000 in
theorem c_Mo_stepTo {l : Launch} {D : va_G} {kA : Nat → ClassId} (h_Mo_dx : ct_ok PRD l D kA GG y_Mo_dx z_Mo_dx e_Mo_dx) (h_Mo_dy : ct_ok PRD l D kA GG y_Mo_dy z_Mo_dy e_Mo_dy) (h_Mo_in : ct_ok PRD l D kA GG y_Mo_in z_Mo_in e_Mo_in) : ct_ok PRD l D kA GG y_Mo_stepTo z_Mo_stepTo e_Mo_stepTo := chk_all_ok (FT := [(327, 13, 143), (1043, 13, 146), (1046, 13, 147)]) (PT := []) (CT := t_Mo_stepTo_ct) (KT := []) (NT := []) (AN := n_Mo_stepTo_an) (OT := [o_Mo_stepTo_0, o_Mo_stepTo_1, o_Mo_stepTo_2, o_Mo_stepTo_3, o_Mo_stepTo_4, o_Mo_stepTo_5, o_Mo_stepTo_6, o_Mo_stepTo_7, o_Mo_stepTo_8, o_Mo_stepTo_9, o_Mo_stepTo_10, o_Mo_stepTo_11, o_Mo_stepTo_12, o_Mo_stepTo_13, o_Mo_stepTo_14, o_Mo_stepTo_15, o_Mo_stepTo_16, o_Mo_stepTo_17, o_Mo_stepTo_18, o_Mo_stepTo_19, o_Mo_stepTo_20, o_Mo_stepTo_21, o_Mo_stepTo_22, o_Mo_stepTo_23, o_Mo_stepTo_24, o_Mo_stepTo_25, o_Mo_stepTo_26, o_Mo_stepTo_27, o_Mo_stepTo_28, o_Mo_stepTo_29, o_Mo_stepTo_30, o_Mo_stepTo_31, o_Mo_stepTo_32]) 0 964 (List.forall_mem_cons.mpr ⟨oo_Mo_stepTo_0, List.forall_mem_cons.mpr ⟨oo_Mo_stepTo_1, List.forall_mem_cons.mpr ⟨oo_Mo_stepTo_2, List.forall_mem_cons.mpr ⟨oo_Mo_stepTo_3, List.forall_mem_cons.mpr ⟨oo_Mo_stepTo_4, List.forall_mem_cons.mpr ⟨oo_Mo_stepTo_5, List.forall_mem_cons.mpr ⟨oo_Mo_stepTo_6, List.forall_mem_cons.mpr ⟨oo_Mo_stepTo_7, List.forall_mem_cons.mpr ⟨oo_Mo_stepTo_8, List.forall_mem_cons.mpr ⟨oo_Mo_stepTo_9, List.forall_mem_cons.mpr ⟨oo_Mo_stepTo_10, List.forall_mem_cons.mpr ⟨oo_Mo_stepTo_11, List.forall_mem_cons.mpr ⟨oo_Mo_stepTo_12, List.forall_mem_cons.mpr ⟨oo_Mo_stepTo_13, List.forall_mem_cons.mpr ⟨oo_Mo_stepTo_14, List.forall_mem_cons.mpr ⟨oo_Mo_stepTo_15, List.forall_mem_cons.mpr ⟨oo_Mo_stepTo_16, List.forall_mem_cons.mpr ⟨oo_Mo_stepTo_17, List.forall_mem_cons.mpr ⟨oo_Mo_stepTo_18, List.forall_mem_cons.mpr ⟨oo_Mo_stepTo_19, List.forall_mem_cons.mpr ⟨oo_Mo_stepTo_20, List.forall_mem_cons.mpr ⟨oo_Mo_stepTo_21, List.forall_mem_cons.mpr ⟨oo_Mo_stepTo_22, List.forall_mem_cons.mpr ⟨oo_Mo_stepTo_23, List.forall_mem_cons.mpr ⟨oo_Mo_stepTo_24, List.forall_mem_cons.mpr ⟨oo_Mo_stepTo_25, List.forall_mem_cons.mpr ⟨oo_Mo_stepTo_26, List.forall_mem_cons.mpr ⟨oo_Mo_stepTo_27, List.forall_mem_cons.mpr ⟨oo_Mo_stepTo_28, List.forall_mem_cons.mpr ⟨oo_Mo_stepTo_29, List.forall_mem_cons.mpr ⟨oo_Mo_stepTo_30, List.forall_mem_cons.mpr ⟨oo_Mo_stepTo_31, List.forall_mem_cons.mpr ⟨oo_Mo_stepTo_32, List.forall_mem_nil _⟩⟩⟩⟩⟩⟩⟩⟩⟩⟩⟩⟩⟩⟩⟩⟩⟩⟩⟩⟩⟩⟩⟩⟩⟩⟩⟩⟩⟩⟩⟩⟩⟩) (by decide +kernel) ⟨List.forall_mem_cons.mpr ⟨gf_Mo_327, List.forall_mem_cons.mpr ⟨gf_Mo_1043, List.forall_mem_cons.mpr ⟨gf_Mo_1046, List.forall_mem_nil _⟩⟩⟩, List.forall_mem_nil _, List.forall_mem_cons.mpr ⟨cl_static (y := y_Mo_in) h_Mo_in wm_2971 wm_9 wm_2969 wm_2970 ⟨by decide, by decide, by decide +kernel⟩ (by decide), List.forall_mem_cons.mpr ⟨cl_static (y := y_Mo_dx) h_Mo_dx wm_3703 wm_9 wm_3701 wm_3702 ⟨by decide, by decide, by decide +kernel⟩ (by decide), List.forall_mem_cons.mpr ⟨cl_static (y := y_Mo_dy) h_Mo_dy wm_3706 wm_9 wm_3704 wm_3705 ⟨by decide, by decide, by decide +kernel⟩ (by decide), List.forall_mem_nil _⟩⟩⟩, List.forall_mem_nil _, List.forall_mem_nil _, GG_pl⟩ (by decide +kernel)
