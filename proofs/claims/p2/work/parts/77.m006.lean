def o_Mo_styleTokens_142 : or_T := (334, 31, [(0, (2, 0, 0, [150])), (2, (2, 0, 0, [150])), (5, (0, 0, 1999, [])), (6, (0, 0, 4001, [])), (7, (0, 0, 255, [])), (8, (0, 32, 32, [])), (9, (0, 0, 255, [])), (10, (0, 10, 10, [])), (11, (0, 0, 4001, [])), (12, (0, 62, 62, [])), (19, (0, 0, 4001, [])), (20, (0, 123, 123, [])), (21, (0, 125, 125, [])), (22, (0, 40, 40, [])), (23, (0, 41, 41, [])), (24, (0, 43, 43, [])), (25, (0, 45, 45, [])), (26, (0, 42, 42, [])), (27, (0, 47, 47, [])), (28, (0, 60, 60, [])), (29, (0, 61, 61, [])), (30, (0, 62, 62, []))], [(7, [12, 30], [0]), (7, [12, 29], [1]), (7, [12, 28], [1]), (7, [12, 27], [1]), (7, [12, 26], [1]), (7, [12, 25], [1]), (7, [12, 24], [1]), (7, [12, 23], [1]), (7, [12, 22], [1]), (7, [12, 21], [1]), (7, [12, 20], [1]), (20, [2, 5], [50, 2, 0, 157, 11, 2, 7, 0, 3, 2, 0, 157, 1, 1, 1, 3, 2, 0, 11, 1, 1]), (20, [19, 5], [30, -4001, -1, 0, 0, -2, 0, 0]), (24, [0, 2], []), (8, [12], [3]), (9, [5, 2], [11]), (20, [5, 2, 12], [50, 1, 1, 1010, 1001, 4, 11, 0, 6, 4, 2, 1, 0, 0, 1, 2, 1, 10, 1, 2, 1, 2, 9, 5, 3, 1, 1, 1, 0, 0, 256]), (20, [2, 5, 12], [50, 1, 0, 10, 4, 7, 0, 3, 2, 0, 10, 1, 1, 1, 2, 1, 2, 0, -1]), (20, [2], [50, 2, 0, 157, 11, 0, 3, 2, 0, 157, 2, 0, 11]), (20, [11, 2], [30, -4001, -1, 0, 0, -2, 1, 11]), (7, [9, 10], [1]), (20, [5, 2, 9], [50, 1, 1, 1010, 1001, 4, 11, 0, 6, 4, 2, 1, 0, 0, 1, 2, 1, 10, 1, 2, 1, 2, 9, 5, 3, 1, 1, 1, 0, 0, 256]), (20, [2, 5, 9], [50, 1, 0, 10, 4, 7, 0, 3, 2, 0, 10, 1, 1, 1, 2, 1, 2, 0, -1]), (7, [7, 8], [1]), (20, [5, 2, 7], [50, 1, 1, 1010, 1001, 4, 11, 0, 6, 4, 2, 1, 0, 0, 1, 2, 1, 10, 1, 2, 1, 2, 9, 5, 3, 1, 1, 1, 0, 0, 256]), (20, [2, 5, 7], [50, 1, 0, 10, 4, 7, 0, 3, 2, 0, 10, 1, 1, 1, 2, 1, 2, 0, -1]), (20, [2], [50, 2, 0, 157, 11, 0, 3, 2, 0, 157, 2, 0, 11]), (20, [6, 2], [30, -4001, -1, 0, 0, -2, 1, 11])], [], [(0, 0, 4001, [])], [(20, [2, 5], [50, 2, 0, 157, 11, 2, 7, 0, 3, 2, 0, 157, 1, 1, 1, 3, 2, 0, 11, 1, 1]), (20, [31, 5], [30, -4001, -1, 0, 0, -2, 0, 0]), (24, [0, 2], [])], [(31, 6, 0, 0)], [(19, 6, 0, 0), (11, 6, 0, 0)])
theorem oo_Mo_styleTokens_142 {kA : Nat → ClassId} : or_ok kA GG o_Mo_styleTokens_142 := by
  intro A ta ws vs hD hth hl hk hds hf
  have hl : vs.length = 31 := hl
  have hk : ∀ q ∈ ([(0, (2, 0, 0, [150])), (2, (2, 0, 0, [150])), (5, (0, 0, 1999, [])), (6, (0, 0, 4001, [])), (7, (0, 0, 255, [])), (8, (0, 32, 32, [])), (9, (0, 0, 255, [])), (10, (0, 10, 10, [])), (11, (0, 0, 4001, [])), (12, (0, 62, 62, [])), (19, (0, 0, 4001, [])), (20, (0, 123, 123, [])), (21, (0, 125, 125, [])), (22, (0, 40, 40, [])), (23, (0, 41, 41, [])), (24, (0, 43, 43, [])), (25, (0, 45, 45, [])), (26, (0, 42, 42, [])), (27, (0, 47, 47, [])), (28, (0, 60, 60, [])), (29, (0, 61, 61, [])), (30, (0, 62, 62, []))] : List (Nat × tv_T)), tv_ok ta q.2 (n_v vs q.1) := hk
  obtain ⟨t0, hk⟩ := List.forall_mem_cons.mp hk
  have t0 : tv_ok ta (2, 0, 0, [150]) (n_v vs 0) := t0
  have r0 : ta (v_ad (n_v vs 0)) = some 150 := tv_rg t0
  obtain ⟨t2, hk⟩ := List.forall_mem_cons.mp hk
  have t2 : tv_ok ta (2, 0, 0, [150]) (n_v vs 2) := t2
  have r2 : ta (v_ad (n_v vs 2)) = some 150 := tv_rg t2
  obtain ⟨t5, hk⟩ := List.forall_mem_cons.mp hk
  have t5 : tv_ok ta (0, 0, 1999, []) (n_v vs 5) := t5
  have k5 : 0 ≤ v_iv (n_v vs 5) ∧ v_iv (n_v vs 5) ≤ 1999 := tv_rng t5
  obtain ⟨t6, hk⟩ := List.forall_mem_cons.mp hk
  have t6 : tv_ok ta (0, 0, 4001, []) (n_v vs 6) := t6
  have k6 : 0 ≤ v_iv (n_v vs 6) ∧ v_iv (n_v vs 6) ≤ 4001 := tv_rng t6
  obtain ⟨t7, hk⟩ := List.forall_mem_cons.mp hk
  have t7 : tv_ok ta (0, 0, 255, []) (n_v vs 7) := t7
  have k7 : 0 ≤ v_iv (n_v vs 7) ∧ v_iv (n_v vs 7) ≤ 255 := tv_rng t7
  obtain ⟨t8, hk⟩ := List.forall_mem_cons.mp hk
  have t8 : tv_ok ta (0, 32, 32, []) (n_v vs 8) := t8
  have k8 : 32 ≤ v_iv (n_v vs 8) ∧ v_iv (n_v vs 8) ≤ 32 := tv_rng t8
  obtain ⟨t9, hk⟩ := List.forall_mem_cons.mp hk
  have t9 : tv_ok ta (0, 0, 255, []) (n_v vs 9) := t9
  have k9 : 0 ≤ v_iv (n_v vs 9) ∧ v_iv (n_v vs 9) ≤ 255 := tv_rng t9
  obtain ⟨t10, hk⟩ := List.forall_mem_cons.mp hk
  have t10 : tv_ok ta (0, 10, 10, []) (n_v vs 10) := t10
  have k10 : 10 ≤ v_iv (n_v vs 10) ∧ v_iv (n_v vs 10) ≤ 10 := tv_rng t10
  obtain ⟨t11, hk⟩ := List.forall_mem_cons.mp hk
  have t11 : tv_ok ta (0, 0, 4001, []) (n_v vs 11) := t11
  have k11 : 0 ≤ v_iv (n_v vs 11) ∧ v_iv (n_v vs 11) ≤ 4001 := tv_rng t11
  obtain ⟨t12, hk⟩ := List.forall_mem_cons.mp hk
  have t12 : tv_ok ta (0, 62, 62, []) (n_v vs 12) := t12
  have k12 : 62 ≤ v_iv (n_v vs 12) ∧ v_iv (n_v vs 12) ≤ 62 := tv_rng t12
  obtain ⟨t19, hk⟩ := List.forall_mem_cons.mp hk
  have t19 : tv_ok ta (0, 0, 4001, []) (n_v vs 19) := t19
  have k19 : 0 ≤ v_iv (n_v vs 19) ∧ v_iv (n_v vs 19) ≤ 4001 := tv_rng t19
  obtain ⟨t20, hk⟩ := List.forall_mem_cons.mp hk
  have t20 : tv_ok ta (0, 123, 123, []) (n_v vs 20) := t20
  have k20 : 123 ≤ v_iv (n_v vs 20) ∧ v_iv (n_v vs 20) ≤ 123 := tv_rng t20
  obtain ⟨t21, hk⟩ := List.forall_mem_cons.mp hk
  have t21 : tv_ok ta (0, 125, 125, []) (n_v vs 21) := t21
  have k21 : 125 ≤ v_iv (n_v vs 21) ∧ v_iv (n_v vs 21) ≤ 125 := tv_rng t21
  obtain ⟨t22, hk⟩ := List.forall_mem_cons.mp hk
  have t22 : tv_ok ta (0, 40, 40, []) (n_v vs 22) := t22
  have k22 : 40 ≤ v_iv (n_v vs 22) ∧ v_iv (n_v vs 22) ≤ 40 := tv_rng t22
  obtain ⟨t23, hk⟩ := List.forall_mem_cons.mp hk
  have t23 : tv_ok ta (0, 41, 41, []) (n_v vs 23) := t23
  have k23 : 41 ≤ v_iv (n_v vs 23) ∧ v_iv (n_v vs 23) ≤ 41 := tv_rng t23
  obtain ⟨t24, hk⟩ := List.forall_mem_cons.mp hk
  have t24 : tv_ok ta (0, 43, 43, []) (n_v vs 24) := t24
  have k24 : 43 ≤ v_iv (n_v vs 24) ∧ v_iv (n_v vs 24) ≤ 43 := tv_rng t24
  obtain ⟨t25, hk⟩ := List.forall_mem_cons.mp hk
  have t25 : tv_ok ta (0, 45, 45, []) (n_v vs 25) := t25
  have k25 : 45 ≤ v_iv (n_v vs 25) ∧ v_iv (n_v vs 25) ≤ 45 := tv_rng t25
  obtain ⟨t26, hk⟩ := List.forall_mem_cons.mp hk
  have t26 : tv_ok ta (0, 42, 42, []) (n_v vs 26) := t26
  have k26 : 42 ≤ v_iv (n_v vs 26) ∧ v_iv (n_v vs 26) ≤ 42 := tv_rng t26
  obtain ⟨t27, hk⟩ := List.forall_mem_cons.mp hk
  have t27 : tv_ok ta (0, 47, 47, []) (n_v vs 27) := t27
  have k27 : 47 ≤ v_iv (n_v vs 27) ∧ v_iv (n_v vs 27) ≤ 47 := tv_rng t27
  obtain ⟨t28, hk⟩ := List.forall_mem_cons.mp hk
  have t28 : tv_ok ta (0, 60, 60, []) (n_v vs 28) := t28
  have k28 : 60 ≤ v_iv (n_v vs 28) ∧ v_iv (n_v vs 28) ≤ 60 := tv_rng t28
  obtain ⟨t29, hk⟩ := List.forall_mem_cons.mp hk
  have t29 : tv_ok ta (0, 61, 61, []) (n_v vs 29) := t29
  have k29 : 61 ≤ v_iv (n_v vs 29) ∧ v_iv (n_v vs 29) ≤ 61 := tv_rng t29
  obtain ⟨t30, hk⟩ := List.forall_mem_cons.mp hk
  have t30 : tv_ok ta (0, 62, 62, []) (n_v vs 30) := t30
  have k30 : 62 ≤ v_iv (n_v vs 30) ∧ v_iv (n_v vs 30) ≤ 62 := tv_rng t30
  have hds : ∀ q ∈ ([(19, 6, 0, 0), (11, 6, 0, 0)] : List of_T), n_iv vs q.2.1 + q.2.2.1 ≤ n_iv vs q.1 ∧ n_iv vs q.1 ≤ n_iv vs q.2.1 + q.2.2.2 := hds
  obtain ⟨d0, hds⟩ := List.forall_mem_cons.mp hds
  have d0 : v_iv (n_v vs 6) + 0 ≤ v_iv (n_v vs 19) ∧ v_iv (n_v vs 19) ≤ v_iv (n_v vs 6) + 0 := d0
  obtain ⟨d1, hds⟩ := List.forall_mem_cons.mp hds
  have d1 : v_iv (n_v vs 6) + 0 ≤ v_iv (n_v vs 11) ∧ v_iv (n_v vs 11) ≤ v_iv (n_v vs 6) + 0 := d1
  have hf : fc_ok [(7, [12, 30], [0]), (7, [12, 29], [1]), (7, [12, 28], [1]), (7, [12, 27], [1]), (7, [12, 26], [1]), (7, [12, 25], [1]), (7, [12, 24], [1]), (7, [12, 23], [1]), (7, [12, 22], [1]), (7, [12, 21], [1]), (7, [12, 20], [1]), (20, [2, 5], [50, 2, 0, 157, 11, 2, 7, 0, 3, 2, 0, 157, 1, 1, 1, 3, 2, 0, 11, 1, 1]), (20, [19, 5], [30, -4001, -1, 0, 0, -2, 0, 0]), (24, [0, 2], []), (8, [12], [3]), (9, [5, 2], [11]), (20, [5, 2, 12], [50, 1, 1, 1010, 1001, 4, 11, 0, 6, 4, 2, 1, 0, 0, 1, 2, 1, 10, 1, 2, 1, 2, 9, 5, 3, 1, 1, 1, 0, 0, 256]), (20, [2, 5, 12], [50, 1, 0, 10, 4, 7, 0, 3, 2, 0, 10, 1, 1, 1, 2, 1, 2, 0, -1]), (20, [2], [50, 2, 0, 157, 11, 0, 3, 2, 0, 157, 2, 0, 11]), (20, [11, 2], [30, -4001, -1, 0, 0, -2, 1, 11]), (7, [9, 10], [1]), (20, [5, 2, 9], [50, 1, 1, 1010, 1001, 4, 11, 0, 6, 4, 2, 1, 0, 0, 1, 2, 1, 10, 1, 2, 1, 2, 9, 5, 3, 1, 1, 1, 0, 0, 256]), (20, [2, 5, 9], [50, 1, 0, 10, 4, 7, 0, 3, 2, 0, 10, 1, 1, 1, 2, 1, 2, 0, -1]), (7, [7, 8], [1]), (20, [5, 2, 7], [50, 1, 1, 1010, 1001, 4, 11, 0, 6, 4, 2, 1, 0, 0, 1, 2, 1, 10, 1, 2, 1, 2, 9, 5, 3, 1, 1, 1, 0, 0, 256]), (20, [2, 5, 7], [50, 1, 0, 10, 4, 7, 0, 3, 2, 0, 10, 1, 1, 1, 2, 1, 2, 0, -1]), (20, [2], [50, 2, 0, 157, 11, 0, 3, 2, 0, 157, 2, 0, 11]), (20, [6, 2], [30, -4001, -1, 0, 0, -2, 1, 11])] ta ws vs := hf
  obtain ⟨f0, hf⟩ := fc_un (by decide) hf
  have f0 : v_iv (n_v vs 12) = v_iv (n_v vs 30) := f0
  obtain ⟨f1, hf⟩ := fc_un (by decide) hf
  have f1 : v_iv (n_v vs 12) ≠ v_iv (n_v vs 29) := f1
  obtain ⟨f2, hf⟩ := fc_un (by decide) hf
  have f2 : v_iv (n_v vs 12) ≠ v_iv (n_v vs 28) := f2
  obtain ⟨f3, hf⟩ := fc_un (by decide) hf
  have f3 : v_iv (n_v vs 12) ≠ v_iv (n_v vs 27) := f3
  obtain ⟨f4, hf⟩ := fc_un (by decide) hf
  have f4 : v_iv (n_v vs 12) ≠ v_iv (n_v vs 26) := f4
  obtain ⟨f5, hf⟩ := fc_un (by decide) hf
  have f5 : v_iv (n_v vs 12) ≠ v_iv (n_v vs 25) := f5
  obtain ⟨f6, hf⟩ := fc_un (by decide) hf
  have f6 : v_iv (n_v vs 12) ≠ v_iv (n_v vs 24) := f6
  obtain ⟨f7, hf⟩ := fc_un (by decide) hf
  have f7 : v_iv (n_v vs 12) ≠ v_iv (n_v vs 23) := f7
  obtain ⟨f8, hf⟩ := fc_un (by decide) hf
  have f8 : v_iv (n_v vs 12) ≠ v_iv (n_v vs 22) := f8
  obtain ⟨f9, hf⟩ := fc_un (by decide) hf
  have f9 : v_iv (n_v vs 12) ≠ v_iv (n_v vs 21) := f9
  obtain ⟨f10, hf⟩ := fc_un (by decide) hf
  have f10 : v_iv (n_v vs 12) ≠ v_iv (n_v vs 20) := f10
  obtain ⟨f11, hf⟩ := fc_un (by decide) hf
  have f11 : (w_fi ws (n_v vs 2) 157 ≤ v_iv (n_v vs 5)) ∧ (w_fi ws (n_v vs 2) 11 = v_iv (n_v vs 5)) := f11
  obtain ⟨f12, hf⟩ := fc_un (by decide) hf
  have f12 : (-1) * v_iv (n_v vs 19) + ((-2) * v_iv (n_v vs 5) + 0) ≤ (-4001) := f12
  obtain ⟨f13, hf⟩ := fc_un (by decide) hf
  have f13 : n_v vs 0 = n_v vs 2 := f13
  obtain ⟨f14, hf⟩ := fc_un (by decide) hf
  have f14 : 0 ≤ v_iv (n_v vs 12) := f14
  obtain ⟨f15, hf⟩ := fc_un (by decide) hf
  have f15 : n_v vs 5 = w_fd ws (v_ad (n_v vs 2)) 11 := f15
  obtain ⟨f16, hf⟩ := fc_un (by decide) hf
  have f16 : ((v_iv (n_v vs 5) + 1) ≤ w_fi ws (n_v vs 2) 10) → (v_iv (n_v vs 12) = (w_ei ws (w_ar ws (n_v vs 2) 1) (v_iv (n_v vs 5)) % 256)) := f16
  obtain ⟨f17, hf⟩ := fc_un (by decide) hf
  have f17 : (w_fi ws (n_v vs 2) 10 ≤ v_iv (n_v vs 5)) → (v_iv (n_v vs 12) = (-1)) := f17
  obtain ⟨f18, hf⟩ := fc_un (by decide) hf
  have f18 : w_fi ws (n_v vs 2) 157 ≤ w_fi ws (n_v vs 2) 11 := f18
  obtain ⟨f19, hf⟩ := fc_un (by decide) hf
  have f19 : (-1) * v_iv (n_v vs 11) + ((-2) * w_fi ws (n_v vs 2) 11 + 0) ≤ (-4001) := f19
  obtain ⟨f20, hf⟩ := fc_un (by decide) hf
  have f20 : v_iv (n_v vs 9) ≠ v_iv (n_v vs 10) := f20
  obtain ⟨f21, hf⟩ := fc_un (by decide) hf
  have f21 : ((v_iv (n_v vs 5) + 1) ≤ w_fi ws (n_v vs 2) 10) → (v_iv (n_v vs 9) = (w_ei ws (w_ar ws (n_v vs 2) 1) (v_iv (n_v vs 5)) % 256)) := f21
  obtain ⟨f22, hf⟩ := fc_un (by decide) hf
  have f22 : (w_fi ws (n_v vs 2) 10 ≤ v_iv (n_v vs 5)) → (v_iv (n_v vs 9) = (-1)) := f22
  obtain ⟨f23, hf⟩ := fc_un (by decide) hf
  have f23 : v_iv (n_v vs 7) ≠ v_iv (n_v vs 8) := f23
  obtain ⟨f24, hf⟩ := fc_un (by decide) hf
  have f24 : ((v_iv (n_v vs 5) + 1) ≤ w_fi ws (n_v vs 2) 10) → (v_iv (n_v vs 7) = (w_ei ws (w_ar ws (n_v vs 2) 1) (v_iv (n_v vs 5)) % 256)) := f24
  obtain ⟨f25, hf⟩ := fc_un (by decide) hf
  have f25 : (w_fi ws (n_v vs 2) 10 ≤ v_iv (n_v vs 5)) → (v_iv (n_v vs 7) = (-1)) := f25
  obtain ⟨f26, hf⟩ := fc_un (by decide) hf
  have f26 : w_fi ws (n_v vs 2) 157 ≤ w_fi ws (n_v vs 2) 11 := f26
  obtain ⟨f27, hf⟩ := fc_un (by decide) hf
  have f27 : (-1) * v_iv (n_v vs 6) + ((-2) * w_fi ws (n_v vs 2) 11 + 0) ≤ (-4001) := f27
  have q2 : n_v vs 2 = n_v vs 0 := f13.symm
  rw [q2] at f11
  rw [q2] at f15
  rw [q2] at f16
  rw [q2] at f17
  rw [q2] at f18
  rw [q2] at f19
  rw [q2] at f21
  rw [q2] at f22
  rw [q2] at f24
  rw [q2] at f25
  rw [q2] at f26
  rw [q2] at f27
  have cr_0_1 : ta (w_ar ws (n_v vs 0) 1) = some 151 := tv_rg (th_fd hD hth r0 (g := GG_150) rfl (k := 1) (t := (2, 0, 0, [151])) rfl rfl)
  have g15 : v_iv (n_v vs 5) = w_fi ws (n_v vs 0) 11 := congrArg v_iv f15
  have hK_0_1 : ∀ j : Int, 0 ≤ j → j < 2000 → (-128) ≤ w_ei ws (w_ar ws (n_v vs 0) 1) j ∧ w_ei ws (w_ar ws (n_v vs 0) 1) j ≤ 127 := fun j h0 h1 => th_el hD hth cr_0_1 (kd := 1) (n := 2000) (m := 2000) (lo := (-128)) (hi := 127) (rs := []) (L := []) rfl (by decide) (j := j.toNat) (by omega)
  have kz_0_10 : 0 ≤ w_fi ws (n_v vs 0) 10 ∧ w_fi ws (n_v vs 0) 10 ≤ 2000 := tv_rng (th_fd hD hth r0 (g := GG_150) rfl (k := 10) (t := (0, 0, 2000, [])) rfl rfl)
  have kz_0_11 : 0 ≤ w_fi ws (n_v vs 0) 11 ∧ w_fi ws (n_v vs 0) 11 ≤ 2000 := tv_rng (th_fd hD hth r0 (g := GG_150) rfl (k := 11) (t := (0, 0, 2000, [])) rfl rfl)
  have kz_0_157 : 0 ≤ w_fi ws (n_v vs 0) 157 ∧ w_fi ws (n_v vs 0) 157 ≤ 2010 := tv_rng (th_fd hD hth r0 (g := GG_150) rfl (k := 157) (t := (0, 0, 2010, [])) rfl rfl)
  obtain ⟨x, ex, hx⟩ := iv_ex (ta := ta) (lo := 0) (hi := 4001) (z := 0 + (1 * v_iv (n_v vs 6) + 0)) (by omega) (by omega) (by decide) (by decide)
  have ex2 : v_iv (Value.int x) = 0 + (1 * v_iv (n_v vs 6) + 0) := ex
  have ex3 : 0 ≤ v_iv (Value.int x) ∧ v_iv (Value.int x) ≤ 4001 := tv_rng hx
  have e_0 : n_v (vs ++ [Value.int x]) 0 = n_v vs 0 := n_v_old (by rw [hl]; decide)
  have e_2 : n_v (vs ++ [Value.int x]) 2 = n_v vs 2 := n_v_old (by rw [hl]; decide)
  have e_5 : n_v (vs ++ [Value.int x]) 5 = n_v vs 5 := n_v_old (by rw [hl]; decide)
  have e_31 : n_v (vs ++ [Value.int x]) 31 = Value.int x := n_v_new hl
  have nf0 : fc_1 (20, [2, 5], [50, 2, 0, 157, 11, 2, 7, 0, 3, 2, 0, 157, 1, 1, 1, 3, 2, 0, 11, 1, 1]) ws (vs ++ [Value.int x]) := by
    refine ⟨fun n hn => ?_, ?_⟩
    · have hn : n ∈ [2, 5] := hn
      rw [List.length_append, hl]
      simp only [List.mem_cons, List.not_mem_nil, or_false] at hn
      show n < 31 + 1; omega
    · show (w_fi ws (n_v (vs ++ [Value.int x]) 2) 157 ≤ v_iv (n_v (vs ++ [Value.int x]) 5)) ∧ (w_fi ws (n_v (vs ++ [Value.int x]) 2) 11 = v_iv (n_v (vs ++ [Value.int x]) 5))
      rw [e_2]
      rw [e_5]
      rw [q2]
      first | omega | grind
  have nf1 : fc_1 (20, [31, 5], [30, -4001, -1, 0, 0, -2, 0, 0]) ws (vs ++ [Value.int x]) := by
    refine ⟨fun n hn => ?_, ?_⟩
    · have hn : n ∈ [31, 5] := hn
      rw [List.length_append, hl]
      simp only [List.mem_cons, List.not_mem_nil, or_false] at hn
      show n < 31 + 1; omega
    · show (-1) * v_iv (n_v (vs ++ [Value.int x]) 31) + ((-2) * v_iv (n_v (vs ++ [Value.int x]) 5) + 0) ≤ (-4001)
      rw [e_5]
      rw [e_31]
      omega
  have nf2 : fc_1 (24, [0, 2], []) ws (vs ++ [Value.int x]) := by
    refine ⟨fun n hn => ?_, ?_⟩
    · have hn : n ∈ [0, 2] := hn
      rw [List.length_append, hl]
      simp only [List.mem_cons, List.not_mem_nil, or_false] at hn
      show n < 31 + 1; omega
    · show n_v (vs ++ [Value.int x]) 0 = n_v (vs ++ [Value.int x]) 2
      first | rfl | simp only [e_0, e_2, q2]
  obtain ⟨x0, e0, _, _⟩ := tv_int t6 rfl
  have e1 : v_iv (n_v vs 6) = x0.toInt := by rw [e0]; rfl
  have ho : sy_ofs (vs ++ [Value.int x]) (31, 6, 0, 0) := by
    refine ⟨x, x0, by rw [List.getElem?_append_right (by rw [hl]; decide), hl]; rfl, ?_, ?_, ?_⟩
    · rw [List.getElem?_append_left (by rw [hl]; decide)]; exact n_v_some (by rw [hl]; decide) e0
    · show x0.toInt + 0 ≤ x.toInt; omega
    · show x.toInt ≤ x0.toInt + 0; omega
  exact ⟨fun q hq => (by cases hq), [Value.int x], ag_one hx, List.forall_mem_cons.mpr ⟨⟨by decide, nf0⟩, List.forall_mem_cons.mpr ⟨⟨by decide, nf1⟩, List.forall_mem_cons.mpr ⟨⟨by decide, nf2⟩, (fun _ h => (by cases h))⟩⟩⟩, List.forall_mem_cons.mpr ⟨ho, (fun _ h => (by cases h))⟩⟩
def o_Mo_styleTokens_143 : or_T := (339, 33, [(0, (2, 0, 0, [150])), (2, (2, 0, 0, [150])), (5, (0, 0, 1999, [])), (6, (0, 0, 4001, [])), (7, (0, 0, 255, [])), (8, (0, 32, 32, [])), (9, (0, 0, 255, [])), (10, (0, 10, 10, [])), (11, (0, 0, 4001, [])), (12, (0, 62, 62, [])), (19, (0, 0, 4001, [])), (20, (0, 123, 123, [])), (21, (0, 125, 125, [])), (22, (0, 40, 40, [])), (23, (0, 41, 41, [])), (24, (0, 43, 43, [])), (25, (0, 45, 45, [])), (26, (0, 42, 42, [])), (27, (0, 47, 47, [])), (28, (0, 60, 60, [])), (29, (0, 61, 61, [])), (30, (0, 62, 62, [])), (31, (0, 0, 4001, []))], [(20, [2, 5], [50, 2, 0, 157, 11, 2, 7, 0, 3, 2, 0, 157, 1, 1, 1, 3, 2, 0, 11, 1, 1]), (20, [31, 5], [30, -4001, -1, 0, 0, -2, 0, 0]), (24, [0, 2], []), (7, [12, 30], [0]), (7, [12, 29], [1]), (7, [12, 28], [1]), (7, [12, 27], [1]), (7, [12, 26], [1]), (7, [12, 25], [1]), (7, [12, 24], [1]), (7, [12, 23], [1]), (7, [12, 22], [1]), (7, [12, 21], [1]), (7, [12, 20], [1]), (20, [2, 5], [50, 2, 0, 157, 11, 2, 7, 0, 3, 2, 0, 157, 1, 1, 1, 3, 2, 0, 11, 1, 1]), (20, [19, 5], [30, -4001, -1, 0, 0, -2, 0, 0]), (8, [12], [3]), (9, [5, 2], [11]), (20, [5, 2, 12], [50, 1, 1, 1010, 1001, 4, 11, 0, 6, 4, 2, 1, 0, 0, 1, 2, 1, 10, 1, 2, 1, 2, 9, 5, 3, 1, 1, 1, 0, 0, 256]), (20, [2, 5, 12], [50, 1, 0, 10, 4, 7, 0, 3, 2, 0, 10, 1, 1, 1, 2, 1, 2, 0, -1]), (20, [2], [50, 2, 0, 157, 11, 0, 3, 2, 0, 157, 2, 0, 11]), (20, [11, 2], [30, -4001, -1, 0, 0, -2, 1, 11]), (7, [9, 10], [1]), (20, [5, 2, 9], [50, 1, 1, 1010, 1001, 4, 11, 0, 6, 4, 2, 1, 0, 0, 1, 2, 1, 10, 1, 2, 1, 2, 9, 5, 3, 1, 1, 1, 0, 0, 256]), (20, [2, 5, 9], [50, 1, 0, 10, 4, 7, 0, 3, 2, 0, 10, 1, 1, 1, 2, 1, 2, 0, -1]), (7, [7, 8], [1]), (20, [5, 2, 7], [50, 1, 1, 1010, 1001, 4, 11, 0, 6, 4, 2, 1, 0, 0, 1, 2, 1, 10, 1, 2, 1, 2, 9, 5, 3, 1, 1, 1, 0, 0, 256]), (20, [2, 5, 7], [50, 1, 0, 10, 4, 7, 0, 3, 2, 0, 10, 1, 1, 1, 2, 1, 2, 0, -1]), (20, [2], [50, 2, 0, 157, 11, 0, 3, 2, 0, 157, 2, 0, 11]), (20, [6, 2], [30, -4001, -1, 0, 0, -2, 1, 11])], [], [(0, 0, 4001, [])], [(20, [2, 5], [50, 2, 0, 157, 11, 2, 7, 0, 3, 2, 0, 157, 1, 1, 1, 3, 2, 0, 11, 1, 1]), (20, [33, 5], [30, -4001, -1, 0, 0, -2, 0, 0]), (24, [0, 2], [])], [(33, 6, 0, 0)], [(31, 6, 0, 0), (19, 6, 0, 0), (11, 6, 0, 0)])
theorem oo_Mo_styleTokens_143 {kA : Nat → ClassId} : or_ok kA GG o_Mo_styleTokens_143 := by
  intro A ta ws vs hD hth hl hk hds hf
  have hl : vs.length = 33 := hl
  have hk : ∀ q ∈ ([(0, (2, 0, 0, [150])), (2, (2, 0, 0, [150])), (5, (0, 0, 1999, [])), (6, (0, 0, 4001, [])), (7, (0, 0, 255, [])), (8, (0, 32, 32, [])), (9, (0, 0, 255, [])), (10, (0, 10, 10, [])), (11, (0, 0, 4001, [])), (12, (0, 62, 62, [])), (19, (0, 0, 4001, [])), (20, (0, 123, 123, [])), (21, (0, 125, 125, [])), (22, (0, 40, 40, [])), (23, (0, 41, 41, [])), (24, (0, 43, 43, [])), (25, (0, 45, 45, [])), (26, (0, 42, 42, [])), (27, (0, 47, 47, [])), (28, (0, 60, 60, [])), (29, (0, 61, 61, [])), (30, (0, 62, 62, [])), (31, (0, 0, 4001, []))] : List (Nat × tv_T)), tv_ok ta q.2 (n_v vs q.1) := hk
  obtain ⟨t0, hk⟩ := List.forall_mem_cons.mp hk
  have t0 : tv_ok ta (2, 0, 0, [150]) (n_v vs 0) := t0
  have r0 : ta (v_ad (n_v vs 0)) = some 150 := tv_rg t0
  obtain ⟨t2, hk⟩ := List.forall_mem_cons.mp hk
  have t2 : tv_ok ta (2, 0, 0, [150]) (n_v vs 2) := t2
  have r2 : ta (v_ad (n_v vs 2)) = some 150 := tv_rg t2
  obtain ⟨t5, hk⟩ := List.forall_mem_cons.mp hk
  have t5 : tv_ok ta (0, 0, 1999, []) (n_v vs 5) := t5
  have k5 : 0 ≤ v_iv (n_v vs 5) ∧ v_iv (n_v vs 5) ≤ 1999 := tv_rng t5
  obtain ⟨t6, hk⟩ := List.forall_mem_cons.mp hk
  have t6 : tv_ok ta (0, 0, 4001, []) (n_v vs 6) := t6
  have k6 : 0 ≤ v_iv (n_v vs 6) ∧ v_iv (n_v vs 6) ≤ 4001 := tv_rng t6
  obtain ⟨t7, hk⟩ := List.forall_mem_cons.mp hk
  have t7 : tv_ok ta (0, 0, 255, []) (n_v vs 7) := t7
  have k7 : 0 ≤ v_iv (n_v vs 7) ∧ v_iv (n_v vs 7) ≤ 255 := tv_rng t7
  obtain ⟨t8, hk⟩ := List.forall_mem_cons.mp hk
  have t8 : tv_ok ta (0, 32, 32, []) (n_v vs 8) := t8
  have k8 : 32 ≤ v_iv (n_v vs 8) ∧ v_iv (n_v vs 8) ≤ 32 := tv_rng t8
  obtain ⟨t9, hk⟩ := List.forall_mem_cons.mp hk
  have t9 : tv_ok ta (0, 0, 255, []) (n_v vs 9) := t9
  have k9 : 0 ≤ v_iv (n_v vs 9) ∧ v_iv (n_v vs 9) ≤ 255 := tv_rng t9
  obtain ⟨t10, hk⟩ := List.forall_mem_cons.mp hk
  have t10 : tv_ok ta (0, 10, 10, []) (n_v vs 10) := t10
  have k10 : 10 ≤ v_iv (n_v vs 10) ∧ v_iv (n_v vs 10) ≤ 10 := tv_rng t10
  obtain ⟨t11, hk⟩ := List.forall_mem_cons.mp hk
  have t11 : tv_ok ta (0, 0, 4001, []) (n_v vs 11) := t11
  have k11 : 0 ≤ v_iv (n_v vs 11) ∧ v_iv (n_v vs 11) ≤ 4001 := tv_rng t11
  obtain ⟨t12, hk⟩ := List.forall_mem_cons.mp hk
  have t12 : tv_ok ta (0, 62, 62, []) (n_v vs 12) := t12
  have k12 : 62 ≤ v_iv (n_v vs 12) ∧ v_iv (n_v vs 12) ≤ 62 := tv_rng t12
  obtain ⟨t19, hk⟩ := List.forall_mem_cons.mp hk
  have t19 : tv_ok ta (0, 0, 4001, []) (n_v vs 19) := t19
  have k19 : 0 ≤ v_iv (n_v vs 19) ∧ v_iv (n_v vs 19) ≤ 4001 := tv_rng t19
  obtain ⟨t20, hk⟩ := List.forall_mem_cons.mp hk
  have t20 : tv_ok ta (0, 123, 123, []) (n_v vs 20) := t20
  have k20 : 123 ≤ v_iv (n_v vs 20) ∧ v_iv (n_v vs 20) ≤ 123 := tv_rng t20
  obtain ⟨t21, hk⟩ := List.forall_mem_cons.mp hk
  have t21 : tv_ok ta (0, 125, 125, []) (n_v vs 21) := t21
  have k21 : 125 ≤ v_iv (n_v vs 21) ∧ v_iv (n_v vs 21) ≤ 125 := tv_rng t21
  obtain ⟨t22, hk⟩ := List.forall_mem_cons.mp hk
  have t22 : tv_ok ta (0, 40, 40, []) (n_v vs 22) := t22
  have k22 : 40 ≤ v_iv (n_v vs 22) ∧ v_iv (n_v vs 22) ≤ 40 := tv_rng t22
  obtain ⟨t23, hk⟩ := List.forall_mem_cons.mp hk
  have t23 : tv_ok ta (0, 41, 41, []) (n_v vs 23) := t23
  have k23 : 41 ≤ v_iv (n_v vs 23) ∧ v_iv (n_v vs 23) ≤ 41 := tv_rng t23
  obtain ⟨t24, hk⟩ := List.forall_mem_cons.mp hk
  have t24 : tv_ok ta (0, 43, 43, []) (n_v vs 24) := t24
  have k24 : 43 ≤ v_iv (n_v vs 24) ∧ v_iv (n_v vs 24) ≤ 43 := tv_rng t24
  obtain ⟨t25, hk⟩ := List.forall_mem_cons.mp hk
  have t25 : tv_ok ta (0, 45, 45, []) (n_v vs 25) := t25
  have k25 : 45 ≤ v_iv (n_v vs 25) ∧ v_iv (n_v vs 25) ≤ 45 := tv_rng t25
  obtain ⟨t26, hk⟩ := List.forall_mem_cons.mp hk
  have t26 : tv_ok ta (0, 42, 42, []) (n_v vs 26) := t26
  have k26 : 42 ≤ v_iv (n_v vs 26) ∧ v_iv (n_v vs 26) ≤ 42 := tv_rng t26
  obtain ⟨t27, hk⟩ := List.forall_mem_cons.mp hk
  have t27 : tv_ok ta (0, 47, 47, []) (n_v vs 27) := t27
  have k27 : 47 ≤ v_iv (n_v vs 27) ∧ v_iv (n_v vs 27) ≤ 47 := tv_rng t27
  obtain ⟨t28, hk⟩ := List.forall_mem_cons.mp hk
  have t28 : tv_ok ta (0, 60, 60, []) (n_v vs 28) := t28
  have k28 : 60 ≤ v_iv (n_v vs 28) ∧ v_iv (n_v vs 28) ≤ 60 := tv_rng t28
  obtain ⟨t29, hk⟩ := List.forall_mem_cons.mp hk
  have t29 : tv_ok ta (0, 61, 61, []) (n_v vs 29) := t29
  have k29 : 61 ≤ v_iv (n_v vs 29) ∧ v_iv (n_v vs 29) ≤ 61 := tv_rng t29
  obtain ⟨t30, hk⟩ := List.forall_mem_cons.mp hk
  have t30 : tv_ok ta (0, 62, 62, []) (n_v vs 30) := t30
  have k30 : 62 ≤ v_iv (n_v vs 30) ∧ v_iv (n_v vs 30) ≤ 62 := tv_rng t30
  obtain ⟨t31, hk⟩ := List.forall_mem_cons.mp hk
  have t31 : tv_ok ta (0, 0, 4001, []) (n_v vs 31) := t31
  have k31 : 0 ≤ v_iv (n_v vs 31) ∧ v_iv (n_v vs 31) ≤ 4001 := tv_rng t31
  have hds : ∀ q ∈ ([(31, 6, 0, 0), (19, 6, 0, 0), (11, 6, 0, 0)] : List of_T), n_iv vs q.2.1 + q.2.2.1 ≤ n_iv vs q.1 ∧ n_iv vs q.1 ≤ n_iv vs q.2.1 + q.2.2.2 := hds
  obtain ⟨d0, hds⟩ := List.forall_mem_cons.mp hds
  have d0 : v_iv (n_v vs 6) + 0 ≤ v_iv (n_v vs 31) ∧ v_iv (n_v vs 31) ≤ v_iv (n_v vs 6) + 0 := d0
  obtain ⟨d1, hds⟩ := List.forall_mem_cons.mp hds
  have d1 : v_iv (n_v vs 6) + 0 ≤ v_iv (n_v vs 19) ∧ v_iv (n_v vs 19) ≤ v_iv (n_v vs 6) + 0 := d1
  obtain ⟨d2, hds⟩ := List.forall_mem_cons.mp hds
  have d2 : v_iv (n_v vs 6) + 0 ≤ v_iv (n_v vs 11) ∧ v_iv (n_v vs 11) ≤ v_iv (n_v vs 6) + 0 := d2
  have hf : fc_ok [(20, [2, 5], [50, 2, 0, 157, 11, 2, 7, 0, 3, 2, 0, 157, 1, 1, 1, 3, 2, 0, 11, 1, 1]), (20, [31, 5], [30, -4001, -1, 0, 0, -2, 0, 0]), (24, [0, 2], []), (7, [12, 30], [0]), (7, [12, 29], [1]), (7, [12, 28], [1]), (7, [12, 27], [1]), (7, [12, 26], [1]), (7, [12, 25], [1]), (7, [12, 24], [1]), (7, [12, 23], [1]), (7, [12, 22], [1]), (7, [12, 21], [1]), (7, [12, 20], [1]), (20, [2, 5], [50, 2, 0, 157, 11, 2, 7, 0, 3, 2, 0, 157, 1, 1, 1, 3, 2, 0, 11, 1, 1]), (20, [19, 5], [30, -4001, -1, 0, 0, -2, 0, 0]), (8, [12], [3]), (9, [5, 2], [11]), (20, [5, 2, 12], [50, 1, 1, 1010, 1001, 4, 11, 0, 6, 4, 2, 1, 0, 0, 1, 2, 1, 10, 1, 2, 1, 2, 9, 5, 3, 1, 1, 1, 0, 0, 256]), (20, [2, 5, 12], [50, 1, 0, 10, 4, 7, 0, 3, 2, 0, 10, 1, 1, 1, 2, 1, 2, 0, -1]), (20, [2], [50, 2, 0, 157, 11, 0, 3, 2, 0, 157, 2, 0, 11]), (20, [11, 2], [30, -4001, -1, 0, 0, -2, 1, 11]), (7, [9, 10], [1]), (20, [5, 2, 9], [50, 1, 1, 1010, 1001, 4, 11, 0, 6, 4, 2, 1, 0, 0, 1, 2, 1, 10, 1, 2, 1, 2, 9, 5, 3, 1, 1, 1, 0, 0, 256]), (20, [2, 5, 9], [50, 1, 0, 10, 4, 7, 0, 3, 2, 0, 10, 1, 1, 1, 2, 1, 2, 0, -1]), (7, [7, 8], [1]), (20, [5, 2, 7], [50, 1, 1, 1010, 1001, 4, 11, 0, 6, 4, 2, 1, 0, 0, 1, 2, 1, 10, 1, 2, 1, 2, 9, 5, 3, 1, 1, 1, 0, 0, 256]), (20, [2, 5, 7], [50, 1, 0, 10, 4, 7, 0, 3, 2, 0, 10, 1, 1, 1, 2, 1, 2, 0, -1]), (20, [2], [50, 2, 0, 157, 11, 0, 3, 2, 0, 157, 2, 0, 11]), (20, [6, 2], [30, -4001, -1, 0, 0, -2, 1, 11])] ta ws vs := hf
  obtain ⟨f0, hf⟩ := fc_un (by decide) hf
  have f0 : (w_fi ws (n_v vs 2) 157 ≤ v_iv (n_v vs 5)) ∧ (w_fi ws (n_v vs 2) 11 = v_iv (n_v vs 5)) := f0
  obtain ⟨f1, hf⟩ := fc_un (by decide) hf
  have f1 : (-1) * v_iv (n_v vs 31) + ((-2) * v_iv (n_v vs 5) + 0) ≤ (-4001) := f1
  obtain ⟨f2, hf⟩ := fc_un (by decide) hf
  have f2 : n_v vs 0 = n_v vs 2 := f2
  obtain ⟨f3, hf⟩ := fc_un (by decide) hf
  have f3 : v_iv (n_v vs 12) = v_iv (n_v vs 30) := f3
  obtain ⟨f4, hf⟩ := fc_un (by decide) hf
  have f4 : v_iv (n_v vs 12) ≠ v_iv (n_v vs 29) := f4
  obtain ⟨f5, hf⟩ := fc_un (by decide) hf
  have f5 : v_iv (n_v vs 12) ≠ v_iv (n_v vs 28) := f5
  obtain ⟨f6, hf⟩ := fc_un (by decide) hf
  have f6 : v_iv (n_v vs 12) ≠ v_iv (n_v vs 27) := f6
  obtain ⟨f7, hf⟩ := fc_un (by decide) hf
  have f7 : v_iv (n_v vs 12) ≠ v_iv (n_v vs 26) := f7
  obtain ⟨f8, hf⟩ := fc_un (by decide) hf
  have f8 : v_iv (n_v vs 12) ≠ v_iv (n_v vs 25) := f8
  obtain ⟨f9, hf⟩ := fc_un (by decide) hf
  have f9 : v_iv (n_v vs 12) ≠ v_iv (n_v vs 24) := f9
  obtain ⟨f10, hf⟩ := fc_un (by decide) hf
  have f10 : v_iv (n_v vs 12) ≠ v_iv (n_v vs 23) := f10
  obtain ⟨f11, hf⟩ := fc_un (by decide) hf
  have f11 : v_iv (n_v vs 12) ≠ v_iv (n_v vs 22) := f11
  obtain ⟨f12, hf⟩ := fc_un (by decide) hf
  have f12 : v_iv (n_v vs 12) ≠ v_iv (n_v vs 21) := f12
  obtain ⟨f13, hf⟩ := fc_un (by decide) hf
  have f13 : v_iv (n_v vs 12) ≠ v_iv (n_v vs 20) := f13
  obtain ⟨f14, hf⟩ := fc_un (by decide) hf
  have f14 : (w_fi ws (n_v vs 2) 157 ≤ v_iv (n_v vs 5)) ∧ (w_fi ws (n_v vs 2) 11 = v_iv (n_v vs 5)) := f14
  obtain ⟨f15, hf⟩ := fc_un (by decide) hf
  have f15 : (-1) * v_iv (n_v vs 19) + ((-2) * v_iv (n_v vs 5) + 0) ≤ (-4001) := f15
  obtain ⟨f16, hf⟩ := fc_un (by decide) hf
  have f16 : 0 ≤ v_iv (n_v vs 12) := f16
  obtain ⟨f17, hf⟩ := fc_un (by decide) hf
  have f17 : n_v vs 5 = w_fd ws (v_ad (n_v vs 2)) 11 := f17
  obtain ⟨f18, hf⟩ := fc_un (by decide) hf
  have f18 : ((v_iv (n_v vs 5) + 1) ≤ w_fi ws (n_v vs 2) 10) → (v_iv (n_v vs 12) = (w_ei ws (w_ar ws (n_v vs 2) 1) (v_iv (n_v vs 5)) % 256)) := f18
  obtain ⟨f19, hf⟩ := fc_un (by decide) hf
  have f19 : (w_fi ws (n_v vs 2) 10 ≤ v_iv (n_v vs 5)) → (v_iv (n_v vs 12) = (-1)) := f19
  obtain ⟨f20, hf⟩ := fc_un (by decide) hf
  have f20 : w_fi ws (n_v vs 2) 157 ≤ w_fi ws (n_v vs 2) 11 := f20
  obtain ⟨f21, hf⟩ := fc_un (by decide) hf
  have f21 : (-1) * v_iv (n_v vs 11) + ((-2) * w_fi ws (n_v vs 2) 11 + 0) ≤ (-4001) := f21
  obtain ⟨f22, hf⟩ := fc_un (by decide) hf
  have f22 : v_iv (n_v vs 9) ≠ v_iv (n_v vs 10) := f22
  obtain ⟨f23, hf⟩ := fc_un (by decide) hf
  have f23 : ((v_iv (n_v vs 5) + 1) ≤ w_fi ws (n_v vs 2) 10) → (v_iv (n_v vs 9) = (w_ei ws (w_ar ws (n_v vs 2) 1) (v_iv (n_v vs 5)) % 256)) := f23
  obtain ⟨f24, hf⟩ := fc_un (by decide) hf
  have f24 : (w_fi ws (n_v vs 2) 10 ≤ v_iv (n_v vs 5)) → (v_iv (n_v vs 9) = (-1)) := f24
  obtain ⟨f25, hf⟩ := fc_un (by decide) hf
  have f25 : v_iv (n_v vs 7) ≠ v_iv (n_v vs 8) := f25
  obtain ⟨f26, hf⟩ := fc_un (by decide) hf
  have f26 : ((v_iv (n_v vs 5) + 1) ≤ w_fi ws (n_v vs 2) 10) → (v_iv (n_v vs 7) = (w_ei ws (w_ar ws (n_v vs 2) 1) (v_iv (n_v vs 5)) % 256)) := f26
  obtain ⟨f27, hf⟩ := fc_un (by decide) hf
  have f27 : (w_fi ws (n_v vs 2) 10 ≤ v_iv (n_v vs 5)) → (v_iv (n_v vs 7) = (-1)) := f27
  obtain ⟨f28, hf⟩ := fc_un (by decide) hf
  have f28 : w_fi ws (n_v vs 2) 157 ≤ w_fi ws (n_v vs 2) 11 := f28
  obtain ⟨f29, hf⟩ := fc_un (by decide) hf
  have f29 : (-1) * v_iv (n_v vs 6) + ((-2) * w_fi ws (n_v vs 2) 11 + 0) ≤ (-4001) := f29
  have q2 : n_v vs 2 = n_v vs 0 := f2.symm
  rw [q2] at f0
  rw [q2] at f14
  rw [q2] at f17
  rw [q2] at f18
  rw [q2] at f19
  rw [q2] at f20
  rw [q2] at f21
  rw [q2] at f23
  rw [q2] at f24
  rw [q2] at f26
  rw [q2] at f27
  rw [q2] at f28
  rw [q2] at f29
  have cr_0_1 : ta (w_ar ws (n_v vs 0) 1) = some 151 := tv_rg (th_fd hD hth r0 (g := GG_150) rfl (k := 1) (t := (2, 0, 0, [151])) rfl rfl)
  have g17 : v_iv (n_v vs 5) = w_fi ws (n_v vs 0) 11 := congrArg v_iv f17
  have hK_0_1 : ∀ j : Int, 0 ≤ j → j < 2000 → (-128) ≤ w_ei ws (w_ar ws (n_v vs 0) 1) j ∧ w_ei ws (w_ar ws (n_v vs 0) 1) j ≤ 127 := fun j h0 h1 => th_el hD hth cr_0_1 (kd := 1) (n := 2000) (m := 2000) (lo := (-128)) (hi := 127) (rs := []) (L := []) rfl (by decide) (j := j.toNat) (by omega)
  have kz_0_10 : 0 ≤ w_fi ws (n_v vs 0) 10 ∧ w_fi ws (n_v vs 0) 10 ≤ 2000 := tv_rng (th_fd hD hth r0 (g := GG_150) rfl (k := 10) (t := (0, 0, 2000, [])) rfl rfl)
  have kz_0_11 : 0 ≤ w_fi ws (n_v vs 0) 11 ∧ w_fi ws (n_v vs 0) 11 ≤ 2000 := tv_rng (th_fd hD hth r0 (g := GG_150) rfl (k := 11) (t := (0, 0, 2000, [])) rfl rfl)
  have kz_0_157 : 0 ≤ w_fi ws (n_v vs 0) 157 ∧ w_fi ws (n_v vs 0) 157 ≤ 2010 := tv_rng (th_fd hD hth r0 (g := GG_150) rfl (k := 157) (t := (0, 0, 2010, [])) rfl rfl)
  obtain ⟨x, ex, hx⟩ := iv_ex (ta := ta) (lo := 0) (hi := 4001) (z := 0 + (1 * v_iv (n_v vs 6) + 0)) (by omega) (by omega) (by decide) (by decide)
  have ex2 : v_iv (Value.int x) = 0 + (1 * v_iv (n_v vs 6) + 0) := ex
  have ex3 : 0 ≤ v_iv (Value.int x) ∧ v_iv (Value.int x) ≤ 4001 := tv_rng hx
  have e_0 : n_v (vs ++ [Value.int x]) 0 = n_v vs 0 := n_v_old (by rw [hl]; decide)
  have e_2 : n_v (vs ++ [Value.int x]) 2 = n_v vs 2 := n_v_old (by rw [hl]; decide)
  have e_5 : n_v (vs ++ [Value.int x]) 5 = n_v vs 5 := n_v_old (by rw [hl]; decide)
  have e_33 : n_v (vs ++ [Value.int x]) 33 = Value.int x := n_v_new hl
  have nf0 : fc_1 (20, [2, 5], [50, 2, 0, 157, 11, 2, 7, 0, 3, 2, 0, 157, 1, 1, 1, 3, 2, 0, 11, 1, 1]) ws (vs ++ [Value.int x]) := by
    refine ⟨fun n hn => ?_, ?_⟩
    · have hn : n ∈ [2, 5] := hn
      rw [List.length_append, hl]
      simp only [List.mem_cons, List.not_mem_nil, or_false] at hn
      show n < 33 + 1; omega
    · show (w_fi ws (n_v (vs ++ [Value.int x]) 2) 157 ≤ v_iv (n_v (vs ++ [Value.int x]) 5)) ∧ (w_fi ws (n_v (vs ++ [Value.int x]) 2) 11 = v_iv (n_v (vs ++ [Value.int x]) 5))
      rw [e_2]
      rw [e_5]
      rw [q2]
      first | omega | grind
  have nf1 : fc_1 (20, [33, 5], [30, -4001, -1, 0, 0, -2, 0, 0]) ws (vs ++ [Value.int x]) := by
    refine ⟨fun n hn => ?_, ?_⟩
    · have hn : n ∈ [33, 5] := hn
      rw [List.length_append, hl]
      simp only [List.mem_cons, List.not_mem_nil, or_false] at hn
      show n < 33 + 1; omega
    · show (-1) * v_iv (n_v (vs ++ [Value.int x]) 33) + ((-2) * v_iv (n_v (vs ++ [Value.int x]) 5) + 0) ≤ (-4001)
      rw [e_5]
      rw [e_33]
      omega
  have nf2 : fc_1 (24, [0, 2], []) ws (vs ++ [Value.int x]) := by
    refine ⟨fun n hn => ?_, ?_⟩
    · have hn : n ∈ [0, 2] := hn
      rw [List.length_append, hl]
      simp only [List.mem_cons, List.not_mem_nil, or_false] at hn
      show n < 33 + 1; omega
    · show n_v (vs ++ [Value.int x]) 0 = n_v (vs ++ [Value.int x]) 2
      first | rfl | simp only [e_0, e_2, q2]
  obtain ⟨x0, e0, _, _⟩ := tv_int t6 rfl
  have e1 : v_iv (n_v vs 6) = x0.toInt := by rw [e0]; rfl
  have ho : sy_ofs (vs ++ [Value.int x]) (33, 6, 0, 0) := by
    refine ⟨x, x0, by rw [List.getElem?_append_right (by rw [hl]; decide), hl]; rfl, ?_, ?_, ?_⟩
    · rw [List.getElem?_append_left (by rw [hl]; decide)]; exact n_v_some (by rw [hl]; decide) e0
    · show x0.toInt + 0 ≤ x.toInt; omega
    · show x.toInt ≤ x0.toInt + 0; omega
  exact ⟨fun q hq => (by cases hq), [Value.int x], ag_one hx, List.forall_mem_cons.mpr ⟨⟨by decide, nf0⟩, List.forall_mem_cons.mpr ⟨⟨by decide, nf1⟩, List.forall_mem_cons.mpr ⟨⟨by decide, nf2⟩, (fun _ h => (by cases h))⟩⟩⟩, List.forall_mem_cons.mpr ⟨ho, (fun _ h => (by cases h))⟩⟩
def o_Mo_styleTokens_144 : or_T := (334, 32, [(0, (2, 0, 0, [150])), (2, (2, 0, 0, [150])), (5, (0, 0, 1999, [])), (6, (0, 0, 4001, [])), (7, (0, 0, 255, [])), (8, (0, 32, 32, [])), (9, (0, 0, 255, [])), (10, (0, 10, 10, [])), (11, (0, 0, 4001, [])), (12, (0, 58, 58, [])), (19, (0, 0, 4001, [])), (20, (0, 123, 123, [])), (21, (0, 125, 125, [])), (22, (0, 40, 40, [])), (23, (0, 41, 41, [])), (24, (0, 43, 43, [])), (25, (0, 45, 45, [])), (26, (0, 42, 42, [])), (27, (0, 47, 47, [])), (28, (0, 60, 60, [])), (29, (0, 61, 61, [])), (30, (0, 62, 62, [])), (31, (0, 58, 58, []))], [(7, [12, 31], [0]), (7, [12, 30], [1]), (7, [12, 29], [1]), (7, [12, 28], [1]), (7, [12, 27], [1]), (7, [12, 26], [1]), (7, [12, 25], [1]), (7, [12, 24], [1]), (7, [12, 23], [1]), (7, [12, 22], [1]), (7, [12, 21], [1]), (7, [12, 20], [1]), (20, [2, 5], [50, 2, 0, 157, 11, 2, 7, 0, 3, 2, 0, 157, 1, 1, 1, 3, 2, 0, 11, 1, 1]), (20, [19, 5], [30, -4001, -1, 0, 0, -2, 0, 0]), (24, [0, 2], []), (8, [12], [3]), (9, [5, 2], [11]), (20, [5, 2, 12], [50, 1, 1, 1010, 1001, 4, 11, 0, 6, 4, 2, 1, 0, 0, 1, 2, 1, 10, 1, 2, 1, 2, 9, 5, 3, 1, 1, 1, 0, 0, 256]), (20, [2, 5, 12], [50, 1, 0, 10, 4, 7, 0, 3, 2, 0, 10, 1, 1, 1, 2, 1, 2, 0, -1]), (20, [2], [50, 2, 0, 157, 11, 0, 3, 2, 0, 157, 2, 0, 11]), (20, [11, 2], [30, -4001, -1, 0, 0, -2, 1, 11]), (7, [9, 10], [1]), (20, [5, 2, 9], [50, 1, 1, 1010, 1001, 4, 11, 0, 6, 4, 2, 1, 0, 0, 1, 2, 1, 10, 1, 2, 1, 2, 9, 5, 3, 1, 1, 1, 0, 0, 256]), (20, [2, 5, 9], [50, 1, 0, 10, 4, 7, 0, 3, 2, 0, 10, 1, 1, 1, 2, 1, 2, 0, -1]), (7, [7, 8], [1]), (20, [5, 2, 7], [50, 1, 1, 1010, 1001, 4, 11, 0, 6, 4, 2, 1, 0, 0, 1, 2, 1, 10, 1, 2, 1, 2, 9, 5, 3, 1, 1, 1, 0, 0, 256]), (20, [2, 5, 7], [50, 1, 0, 10, 4, 7, 0, 3, 2, 0, 10, 1, 1, 1, 2, 1, 2, 0, -1]), (20, [2], [50, 2, 0, 157, 11, 0, 3, 2, 0, 157, 2, 0, 11]), (20, [6, 2], [30, -4001, -1, 0, 0, -2, 1, 11])], [], [(0, 0, 4001, [])], [(20, [2, 5], [50, 2, 0, 157, 11, 2, 7, 0, 3, 2, 0, 157, 1, 1, 1, 3, 2, 0, 11, 1, 1]), (20, [32, 5], [30, -4001, -1, 0, 0, -2, 0, 0]), (24, [0, 2], [])], [(32, 6, 0, 0)], [(19, 6, 0, 0), (11, 6, 0, 0)])
theorem oo_Mo_styleTokens_144 {kA : Nat → ClassId} : or_ok kA GG o_Mo_styleTokens_144 := by
  intro A ta ws vs hD hth hl hk hds hf
  have hl : vs.length = 32 := hl
  have hk : ∀ q ∈ ([(0, (2, 0, 0, [150])), (2, (2, 0, 0, [150])), (5, (0, 0, 1999, [])), (6, (0, 0, 4001, [])), (7, (0, 0, 255, [])), (8, (0, 32, 32, [])), (9, (0, 0, 255, [])), (10, (0, 10, 10, [])), (11, (0, 0, 4001, [])), (12, (0, 58, 58, [])), (19, (0, 0, 4001, [])), (20, (0, 123, 123, [])), (21, (0, 125, 125, [])), (22, (0, 40, 40, [])), (23, (0, 41, 41, [])), (24, (0, 43, 43, [])), (25, (0, 45, 45, [])), (26, (0, 42, 42, [])), (27, (0, 47, 47, [])), (28, (0, 60, 60, [])), (29, (0, 61, 61, [])), (30, (0, 62, 62, [])), (31, (0, 58, 58, []))] : List (Nat × tv_T)), tv_ok ta q.2 (n_v vs q.1) := hk
  obtain ⟨t0, hk⟩ := List.forall_mem_cons.mp hk
  have t0 : tv_ok ta (2, 0, 0, [150]) (n_v vs 0) := t0
  have r0 : ta (v_ad (n_v vs 0)) = some 150 := tv_rg t0
  obtain ⟨t2, hk⟩ := List.forall_mem_cons.mp hk
  have t2 : tv_ok ta (2, 0, 0, [150]) (n_v vs 2) := t2
  have r2 : ta (v_ad (n_v vs 2)) = some 150 := tv_rg t2
  obtain ⟨t5, hk⟩ := List.forall_mem_cons.mp hk
  have t5 : tv_ok ta (0, 0, 1999, []) (n_v vs 5) := t5
  have k5 : 0 ≤ v_iv (n_v vs 5) ∧ v_iv (n_v vs 5) ≤ 1999 := tv_rng t5
  obtain ⟨t6, hk⟩ := List.forall_mem_cons.mp hk
  have t6 : tv_ok ta (0, 0, 4001, []) (n_v vs 6) := t6
  have k6 : 0 ≤ v_iv (n_v vs 6) ∧ v_iv (n_v vs 6) ≤ 4001 := tv_rng t6
  obtain ⟨t7, hk⟩ := List.forall_mem_cons.mp hk
  have t7 : tv_ok ta (0, 0, 255, []) (n_v vs 7) := t7
  have k7 : 0 ≤ v_iv (n_v vs 7) ∧ v_iv (n_v vs 7) ≤ 255 := tv_rng t7
  obtain ⟨t8, hk⟩ := List.forall_mem_cons.mp hk
  have t8 : tv_ok ta (0, 32, 32, []) (n_v vs 8) := t8
  have k8 : 32 ≤ v_iv (n_v vs 8) ∧ v_iv (n_v vs 8) ≤ 32 := tv_rng t8
  obtain ⟨t9, hk⟩ := List.forall_mem_cons.mp hk
  have t9 : tv_ok ta (0, 0, 255, []) (n_v vs 9) := t9
  have k9 : 0 ≤ v_iv (n_v vs 9) ∧ v_iv (n_v vs 9) ≤ 255 := tv_rng t9
  obtain ⟨t10, hk⟩ := List.forall_mem_cons.mp hk
  have t10 : tv_ok ta (0, 10, 10, []) (n_v vs 10) := t10
  have k10 : 10 ≤ v_iv (n_v vs 10) ∧ v_iv (n_v vs 10) ≤ 10 := tv_rng t10
  obtain ⟨t11, hk⟩ := List.forall_mem_cons.mp hk
  have t11 : tv_ok ta (0, 0, 4001, []) (n_v vs 11) := t11
  have k11 : 0 ≤ v_iv (n_v vs 11) ∧ v_iv (n_v vs 11) ≤ 4001 := tv_rng t11
  obtain ⟨t12, hk⟩ := List.forall_mem_cons.mp hk
  have t12 : tv_ok ta (0, 58, 58, []) (n_v vs 12) := t12
  have k12 : 58 ≤ v_iv (n_v vs 12) ∧ v_iv (n_v vs 12) ≤ 58 := tv_rng t12
  obtain ⟨t19, hk⟩ := List.forall_mem_cons.mp hk
  have t19 : tv_ok ta (0, 0, 4001, []) (n_v vs 19) := t19
  have k19 : 0 ≤ v_iv (n_v vs 19) ∧ v_iv (n_v vs 19) ≤ 4001 := tv_rng t19
  obtain ⟨t20, hk⟩ := List.forall_mem_cons.mp hk
  have t20 : tv_ok ta (0, 123, 123, []) (n_v vs 20) := t20
  have k20 : 123 ≤ v_iv (n_v vs 20) ∧ v_iv (n_v vs 20) ≤ 123 := tv_rng t20
  obtain ⟨t21, hk⟩ := List.forall_mem_cons.mp hk
  have t21 : tv_ok ta (0, 125, 125, []) (n_v vs 21) := t21
  have k21 : 125 ≤ v_iv (n_v vs 21) ∧ v_iv (n_v vs 21) ≤ 125 := tv_rng t21
  obtain ⟨t22, hk⟩ := List.forall_mem_cons.mp hk
  have t22 : tv_ok ta (0, 40, 40, []) (n_v vs 22) := t22
  have k22 : 40 ≤ v_iv (n_v vs 22) ∧ v_iv (n_v vs 22) ≤ 40 := tv_rng t22
  obtain ⟨t23, hk⟩ := List.forall_mem_cons.mp hk
  have t23 : tv_ok ta (0, 41, 41, []) (n_v vs 23) := t23
  have k23 : 41 ≤ v_iv (n_v vs 23) ∧ v_iv (n_v vs 23) ≤ 41 := tv_rng t23
  obtain ⟨t24, hk⟩ := List.forall_mem_cons.mp hk
  have t24 : tv_ok ta (0, 43, 43, []) (n_v vs 24) := t24
  have k24 : 43 ≤ v_iv (n_v vs 24) ∧ v_iv (n_v vs 24) ≤ 43 := tv_rng t24
  obtain ⟨t25, hk⟩ := List.forall_mem_cons.mp hk
  have t25 : tv_ok ta (0, 45, 45, []) (n_v vs 25) := t25
  have k25 : 45 ≤ v_iv (n_v vs 25) ∧ v_iv (n_v vs 25) ≤ 45 := tv_rng t25
  obtain ⟨t26, hk⟩ := List.forall_mem_cons.mp hk
  have t26 : tv_ok ta (0, 42, 42, []) (n_v vs 26) := t26
  have k26 : 42 ≤ v_iv (n_v vs 26) ∧ v_iv (n_v vs 26) ≤ 42 := tv_rng t26
  obtain ⟨t27, hk⟩ := List.forall_mem_cons.mp hk
  have t27 : tv_ok ta (0, 47, 47, []) (n_v vs 27) := t27
  have k27 : 47 ≤ v_iv (n_v vs 27) ∧ v_iv (n_v vs 27) ≤ 47 := tv_rng t27
  obtain ⟨t28, hk⟩ := List.forall_mem_cons.mp hk
  have t28 : tv_ok ta (0, 60, 60, []) (n_v vs 28) := t28
  have k28 : 60 ≤ v_iv (n_v vs 28) ∧ v_iv (n_v vs 28) ≤ 60 := tv_rng t28
  obtain ⟨t29, hk⟩ := List.forall_mem_cons.mp hk
  have t29 : tv_ok ta (0, 61, 61, []) (n_v vs 29) := t29
  have k29 : 61 ≤ v_iv (n_v vs 29) ∧ v_iv (n_v vs 29) ≤ 61 := tv_rng t29
  obtain ⟨t30, hk⟩ := List.forall_mem_cons.mp hk
  have t30 : tv_ok ta (0, 62, 62, []) (n_v vs 30) := t30
  have k30 : 62 ≤ v_iv (n_v vs 30) ∧ v_iv (n_v vs 30) ≤ 62 := tv_rng t30
  obtain ⟨t31, hk⟩ := List.forall_mem_cons.mp hk
  have t31 : tv_ok ta (0, 58, 58, []) (n_v vs 31) := t31
  have k31 : 58 ≤ v_iv (n_v vs 31) ∧ v_iv (n_v vs 31) ≤ 58 := tv_rng t31
  have hds : ∀ q ∈ ([(19, 6, 0, 0), (11, 6, 0, 0)] : List of_T), n_iv vs q.2.1 + q.2.2.1 ≤ n_iv vs q.1 ∧ n_iv vs q.1 ≤ n_iv vs q.2.1 + q.2.2.2 := hds
  obtain ⟨d0, hds⟩ := List.forall_mem_cons.mp hds
  have d0 : v_iv (n_v vs 6) + 0 ≤ v_iv (n_v vs 19) ∧ v_iv (n_v vs 19) ≤ v_iv (n_v vs 6) + 0 := d0
  obtain ⟨d1, hds⟩ := List.forall_mem_cons.mp hds
  have d1 : v_iv (n_v vs 6) + 0 ≤ v_iv (n_v vs 11) ∧ v_iv (n_v vs 11) ≤ v_iv (n_v vs 6) + 0 := d1
  have hf : fc_ok [(7, [12, 31], [0]), (7, [12, 30], [1]), (7, [12, 29], [1]), (7, [12, 28], [1]), (7, [12, 27], [1]), (7, [12, 26], [1]), (7, [12, 25], [1]), (7, [12, 24], [1]), (7, [12, 23], [1]), (7, [12, 22], [1]), (7, [12, 21], [1]), (7, [12, 20], [1]), (20, [2, 5], [50, 2, 0, 157, 11, 2, 7, 0, 3, 2, 0, 157, 1, 1, 1, 3, 2, 0, 11, 1, 1]), (20, [19, 5], [30, -4001, -1, 0, 0, -2, 0, 0]), (24, [0, 2], []), (8, [12], [3]), (9, [5, 2], [11]), (20, [5, 2, 12], [50, 1, 1, 1010, 1001, 4, 11, 0, 6, 4, 2, 1, 0, 0, 1, 2, 1, 10, 1, 2, 1, 2, 9, 5, 3, 1, 1, 1, 0, 0, 256]), (20, [2, 5, 12], [50, 1, 0, 10, 4, 7, 0, 3, 2, 0, 10, 1, 1, 1, 2, 1, 2, 0, -1]), (20, [2], [50, 2, 0, 157, 11, 0, 3, 2, 0, 157, 2, 0, 11]), (20, [11, 2], [30, -4001, -1, 0, 0, -2, 1, 11]), (7, [9, 10], [1]), (20, [5, 2, 9], [50, 1, 1, 1010, 1001, 4, 11, 0, 6, 4, 2, 1, 0, 0, 1, 2, 1, 10, 1, 2, 1, 2, 9, 5, 3, 1, 1, 1, 0, 0, 256]), (20, [2, 5, 9], [50, 1, 0, 10, 4, 7, 0, 3, 2, 0, 10, 1, 1, 1, 2, 1, 2, 0, -1]), (7, [7, 8], [1]), (20, [5, 2, 7], [50, 1, 1, 1010, 1001, 4, 11, 0, 6, 4, 2, 1, 0, 0, 1, 2, 1, 10, 1, 2, 1, 2, 9, 5, 3, 1, 1, 1, 0, 0, 256]), (20, [2, 5, 7], [50, 1, 0, 10, 4, 7, 0, 3, 2, 0, 10, 1, 1, 1, 2, 1, 2, 0, -1]), (20, [2], [50, 2, 0, 157, 11, 0, 3, 2, 0, 157, 2, 0, 11]), (20, [6, 2], [30, -4001, -1, 0, 0, -2, 1, 11])] ta ws vs := hf
  obtain ⟨f0, hf⟩ := fc_un (by decide) hf
  have f0 : v_iv (n_v vs 12) = v_iv (n_v vs 31) := f0
  obtain ⟨f1, hf⟩ := fc_un (by decide) hf
  have f1 : v_iv (n_v vs 12) ≠ v_iv (n_v vs 30) := f1
  obtain ⟨f2, hf⟩ := fc_un (by decide) hf
  have f2 : v_iv (n_v vs 12) ≠ v_iv (n_v vs 29) := f2
  obtain ⟨f3, hf⟩ := fc_un (by decide) hf
  have f3 : v_iv (n_v vs 12) ≠ v_iv (n_v vs 28) := f3
  obtain ⟨f4, hf⟩ := fc_un (by decide) hf
  have f4 : v_iv (n_v vs 12) ≠ v_iv (n_v vs 27) := f4
  obtain ⟨f5, hf⟩ := fc_un (by decide) hf
  have f5 : v_iv (n_v vs 12) ≠ v_iv (n_v vs 26) := f5
  obtain ⟨f6, hf⟩ := fc_un (by decide) hf
  have f6 : v_iv (n_v vs 12) ≠ v_iv (n_v vs 25) := f6
  obtain ⟨f7, hf⟩ := fc_un (by decide) hf
  have f7 : v_iv (n_v vs 12) ≠ v_iv (n_v vs 24) := f7
  obtain ⟨f8, hf⟩ := fc_un (by decide) hf
  have f8 : v_iv (n_v vs 12) ≠ v_iv (n_v vs 23) := f8
  obtain ⟨f9, hf⟩ := fc_un (by decide) hf
  have f9 : v_iv (n_v vs 12) ≠ v_iv (n_v vs 22) := f9
  obtain ⟨f10, hf⟩ := fc_un (by decide) hf
  have f10 : v_iv (n_v vs 12) ≠ v_iv (n_v vs 21) := f10
  obtain ⟨f11, hf⟩ := fc_un (by decide) hf
  have f11 : v_iv (n_v vs 12) ≠ v_iv (n_v vs 20) := f11
  obtain ⟨f12, hf⟩ := fc_un (by decide) hf
  have f12 : (w_fi ws (n_v vs 2) 157 ≤ v_iv (n_v vs 5)) ∧ (w_fi ws (n_v vs 2) 11 = v_iv (n_v vs 5)) := f12
  obtain ⟨f13, hf⟩ := fc_un (by decide) hf
  have f13 : (-1) * v_iv (n_v vs 19) + ((-2) * v_iv (n_v vs 5) + 0) ≤ (-4001) := f13
  obtain ⟨f14, hf⟩ := fc_un (by decide) hf
  have f14 : n_v vs 0 = n_v vs 2 := f14
  obtain ⟨f15, hf⟩ := fc_un (by decide) hf
  have f15 : 0 ≤ v_iv (n_v vs 12) := f15
  obtain ⟨f16, hf⟩ := fc_un (by decide) hf
  have f16 : n_v vs 5 = w_fd ws (v_ad (n_v vs 2)) 11 := f16
  obtain ⟨f17, hf⟩ := fc_un (by decide) hf
  have f17 : ((v_iv (n_v vs 5) + 1) ≤ w_fi ws (n_v vs 2) 10) → (v_iv (n_v vs 12) = (w_ei ws (w_ar ws (n_v vs 2) 1) (v_iv (n_v vs 5)) % 256)) := f17
  obtain ⟨f18, hf⟩ := fc_un (by decide) hf
  have f18 : (w_fi ws (n_v vs 2) 10 ≤ v_iv (n_v vs 5)) → (v_iv (n_v vs 12) = (-1)) := f18
  obtain ⟨f19, hf⟩ := fc_un (by decide) hf
  have f19 : w_fi ws (n_v vs 2) 157 ≤ w_fi ws (n_v vs 2) 11 := f19
  obtain ⟨f20, hf⟩ := fc_un (by decide) hf
  have f20 : (-1) * v_iv (n_v vs 11) + ((-2) * w_fi ws (n_v vs 2) 11 + 0) ≤ (-4001) := f20
  obtain ⟨f21, hf⟩ := fc_un (by decide) hf
  have f21 : v_iv (n_v vs 9) ≠ v_iv (n_v vs 10) := f21
  obtain ⟨f22, hf⟩ := fc_un (by decide) hf
  have f22 : ((v_iv (n_v vs 5) + 1) ≤ w_fi ws (n_v vs 2) 10) → (v_iv (n_v vs 9) = (w_ei ws (w_ar ws (n_v vs 2) 1) (v_iv (n_v vs 5)) % 256)) := f22
  obtain ⟨f23, hf⟩ := fc_un (by decide) hf
  have f23 : (w_fi ws (n_v vs 2) 10 ≤ v_iv (n_v vs 5)) → (v_iv (n_v vs 9) = (-1)) := f23
  obtain ⟨f24, hf⟩ := fc_un (by decide) hf
  have f24 : v_iv (n_v vs 7) ≠ v_iv (n_v vs 8) := f24
  obtain ⟨f25, hf⟩ := fc_un (by decide) hf
  have f25 : ((v_iv (n_v vs 5) + 1) ≤ w_fi ws (n_v vs 2) 10) → (v_iv (n_v vs 7) = (w_ei ws (w_ar ws (n_v vs 2) 1) (v_iv (n_v vs 5)) % 256)) := f25
  obtain ⟨f26, hf⟩ := fc_un (by decide) hf
  have f26 : (w_fi ws (n_v vs 2) 10 ≤ v_iv (n_v vs 5)) → (v_iv (n_v vs 7) = (-1)) := f26
  obtain ⟨f27, hf⟩ := fc_un (by decide) hf
  have f27 : w_fi ws (n_v vs 2) 157 ≤ w_fi ws (n_v vs 2) 11 := f27
  obtain ⟨f28, hf⟩ := fc_un (by decide) hf
  have f28 : (-1) * v_iv (n_v vs 6) + ((-2) * w_fi ws (n_v vs 2) 11 + 0) ≤ (-4001) := f28
  have q2 : n_v vs 2 = n_v vs 0 := f14.symm
  rw [q2] at f12
  rw [q2] at f16
  rw [q2] at f17
  rw [q2] at f18
  rw [q2] at f19
  rw [q2] at f20
  rw [q2] at f22
  rw [q2] at f23
  rw [q2] at f25
  rw [q2] at f26
  rw [q2] at f27
  rw [q2] at f28
  have cr_0_1 : ta (w_ar ws (n_v vs 0) 1) = some 151 := tv_rg (th_fd hD hth r0 (g := GG_150) rfl (k := 1) (t := (2, 0, 0, [151])) rfl rfl)
  have g16 : v_iv (n_v vs 5) = w_fi ws (n_v vs 0) 11 := congrArg v_iv f16
  have hK_0_1 : ∀ j : Int, 0 ≤ j → j < 2000 → (-128) ≤ w_ei ws (w_ar ws (n_v vs 0) 1) j ∧ w_ei ws (w_ar ws (n_v vs 0) 1) j ≤ 127 := fun j h0 h1 => th_el hD hth cr_0_1 (kd := 1) (n := 2000) (m := 2000) (lo := (-128)) (hi := 127) (rs := []) (L := []) rfl (by decide) (j := j.toNat) (by omega)
  have kz_0_10 : 0 ≤ w_fi ws (n_v vs 0) 10 ∧ w_fi ws (n_v vs 0) 10 ≤ 2000 := tv_rng (th_fd hD hth r0 (g := GG_150) rfl (k := 10) (t := (0, 0, 2000, [])) rfl rfl)
  have kz_0_11 : 0 ≤ w_fi ws (n_v vs 0) 11 ∧ w_fi ws (n_v vs 0) 11 ≤ 2000 := tv_rng (th_fd hD hth r0 (g := GG_150) rfl (k := 11) (t := (0, 0, 2000, [])) rfl rfl)
  have kz_0_157 : 0 ≤ w_fi ws (n_v vs 0) 157 ∧ w_fi ws (n_v vs 0) 157 ≤ 2010 := tv_rng (th_fd hD hth r0 (g := GG_150) rfl (k := 157) (t := (0, 0, 2010, [])) rfl rfl)
  obtain ⟨x, ex, hx⟩ := iv_ex (ta := ta) (lo := 0) (hi := 4001) (z := 0 + (1 * v_iv (n_v vs 6) + 0)) (by omega) (by omega) (by decide) (by decide)
  have ex2 : v_iv (Value.int x) = 0 + (1 * v_iv (n_v vs 6) + 0) := ex
  have ex3 : 0 ≤ v_iv (Value.int x) ∧ v_iv (Value.int x) ≤ 4001 := tv_rng hx
  have e_0 : n_v (vs ++ [Value.int x]) 0 = n_v vs 0 := n_v_old (by rw [hl]; decide)
  have e_2 : n_v (vs ++ [Value.int x]) 2 = n_v vs 2 := n_v_old (by rw [hl]; decide)
  have e_5 : n_v (vs ++ [Value.int x]) 5 = n_v vs 5 := n_v_old (by rw [hl]; decide)
  have e_32 : n_v (vs ++ [Value.int x]) 32 = Value.int x := n_v_new hl
  have nf0 : fc_1 (20, [2, 5], [50, 2, 0, 157, 11, 2, 7, 0, 3, 2, 0, 157, 1, 1, 1, 3, 2, 0, 11, 1, 1]) ws (vs ++ [Value.int x]) := by
    refine ⟨fun n hn => ?_, ?_⟩
    · have hn : n ∈ [2, 5] := hn
      rw [List.length_append, hl]
      simp only [List.mem_cons, List.not_mem_nil, or_false] at hn
      show n < 32 + 1; omega
    · show (w_fi ws (n_v (vs ++ [Value.int x]) 2) 157 ≤ v_iv (n_v (vs ++ [Value.int x]) 5)) ∧ (w_fi ws (n_v (vs ++ [Value.int x]) 2) 11 = v_iv (n_v (vs ++ [Value.int x]) 5))
      rw [e_2]
      rw [e_5]
      rw [q2]
      first | omega | grind
  have nf1 : fc_1 (20, [32, 5], [30, -4001, -1, 0, 0, -2, 0, 0]) ws (vs ++ [Value.int x]) := by
    refine ⟨fun n hn => ?_, ?_⟩
    · have hn : n ∈ [32, 5] := hn
      rw [List.length_append, hl]
      simp only [List.mem_cons, List.not_mem_nil, or_false] at hn
      show n < 32 + 1; omega
    · show (-1) * v_iv (n_v (vs ++ [Value.int x]) 32) + ((-2) * v_iv (n_v (vs ++ [Value.int x]) 5) + 0) ≤ (-4001)
      rw [e_5]
      rw [e_32]
      omega
  have nf2 : fc_1 (24, [0, 2], []) ws (vs ++ [Value.int x]) := by
    refine ⟨fun n hn => ?_, ?_⟩
    · have hn : n ∈ [0, 2] := hn
      rw [List.length_append, hl]
      simp only [List.mem_cons, List.not_mem_nil, or_false] at hn
      show n < 32 + 1; omega
    · show n_v (vs ++ [Value.int x]) 0 = n_v (vs ++ [Value.int x]) 2
      first | rfl | simp only [e_0, e_2, q2]
  obtain ⟨x0, e0, _, _⟩ := tv_int t6 rfl
  have e1 : v_iv (n_v vs 6) = x0.toInt := by rw [e0]; rfl
  have ho : sy_ofs (vs ++ [Value.int x]) (32, 6, 0, 0) := by
    refine ⟨x, x0, by rw [List.getElem?_append_right (by rw [hl]; decide), hl]; rfl, ?_, ?_, ?_⟩
    · rw [List.getElem?_append_left (by rw [hl]; decide)]; exact n_v_some (by rw [hl]; decide) e0
    · show x0.toInt + 0 ≤ x.toInt; omega
    · show x.toInt ≤ x0.toInt + 0; omega
  exact ⟨fun q hq => (by cases hq), [Value.int x], ag_one hx, List.forall_mem_cons.mpr ⟨⟨by decide, nf0⟩, List.forall_mem_cons.mpr ⟨⟨by decide, nf1⟩, List.forall_mem_cons.mpr ⟨⟨by decide, nf2⟩, (fun _ h => (by cases h))⟩⟩⟩, List.forall_mem_cons.mpr ⟨ho, (fun _ h => (by cases h))⟩⟩
def o_Mo_styleTokens_145 : or_T := (339, 34, [(0, (2, 0, 0, [150])), (2, (2, 0, 0, [150])), (5, (0, 0, 1999, [])), (6, (0, 0, 4001, [])), (7, (0, 0, 255, [])), (8, (0, 32, 32, [])), (9, (0, 0, 255, [])), (10, (0, 10, 10, [])), (11, (0, 0, 4001, [])), (12, (0, 58, 58, [])), (19, (0, 0, 4001, [])), (20, (0, 123, 123, [])), (21, (0, 125, 125, [])), (22, (0, 40, 40, [])), (23, (0, 41, 41, [])), (24, (0, 43, 43, [])), (25, (0, 45, 45, [])), (26, (0, 42, 42, [])), (27, (0, 47, 47, [])), (28, (0, 60, 60, [])), (29, (0, 61, 61, [])), (30, (0, 62, 62, [])), (31, (0, 58, 58, [])), (32, (0, 0, 4001, []))], [(20, [2, 5], [50, 2, 0, 157, 11, 2, 7, 0, 3, 2, 0, 157, 1, 1, 1, 3, 2, 0, 11, 1, 1]), (20, [32, 5], [30, -4001, -1, 0, 0, -2, 0, 0]), (24, [0, 2], []), (7, [12, 31], [0]), (7, [12, 30], [1]), (7, [12, 29], [1]), (7, [12, 28], [1]), (7, [12, 27], [1]), (7, [12, 26], [1]), (7, [12, 25], [1]), (7, [12, 24], [1]), (7, [12, 23], [1]), (7, [12, 22], [1]), (7, [12, 21], [1]), (7, [12, 20], [1]), (20, [2, 5], [50, 2, 0, 157, 11, 2, 7, 0, 3, 2, 0, 157, 1, 1, 1, 3, 2, 0, 11, 1, 1]), (20, [19, 5], [30, -4001, -1, 0, 0, -2, 0, 0]), (8, [12], [3]), (9, [5, 2], [11]), (20, [5, 2, 12], [50, 1, 1, 1010, 1001, 4, 11, 0, 6, 4, 2, 1, 0, 0, 1, 2, 1, 10, 1, 2, 1, 2, 9, 5, 3, 1, 1, 1, 0, 0, 256]), (20, [2, 5, 12], [50, 1, 0, 10, 4, 7, 0, 3, 2, 0, 10, 1, 1, 1, 2, 1, 2, 0, -1]), (20, [2], [50, 2, 0, 157, 11, 0, 3, 2, 0, 157, 2, 0, 11]), (20, [11, 2], [30, -4001, -1, 0, 0, -2, 1, 11]), (7, [9, 10], [1]), (20, [5, 2, 9], [50, 1, 1, 1010, 1001, 4, 11, 0, 6, 4, 2, 1, 0, 0, 1, 2, 1, 10, 1, 2, 1, 2, 9, 5, 3, 1, 1, 1, 0, 0, 256]), (20, [2, 5, 9], [50, 1, 0, 10, 4, 7, 0, 3, 2, 0, 10, 1, 1, 1, 2, 1, 2, 0, -1]), (7, [7, 8], [1]), (20, [5, 2, 7], [50, 1, 1, 1010, 1001, 4, 11, 0, 6, 4, 2, 1, 0, 0, 1, 2, 1, 10, 1, 2, 1, 2, 9, 5, 3, 1, 1, 1, 0, 0, 256]), (20, [2, 5, 7], [50, 1, 0, 10, 4, 7, 0, 3, 2, 0, 10, 1, 1, 1, 2, 1, 2, 0, -1]), (20, [2], [50, 2, 0, 157, 11, 0, 3, 2, 0, 157, 2, 0, 11]), (20, [6, 2], [30, -4001, -1, 0, 0, -2, 1, 11])], [], [(0, 0, 4001, [])], [(20, [2, 5], [50, 2, 0, 157, 11, 2, 7, 0, 3, 2, 0, 157, 1, 1, 1, 3, 2, 0, 11, 1, 1]), (20, [34, 5], [30, -4001, -1, 0, 0, -2, 0, 0]), (24, [0, 2], [])], [(34, 6, 0, 0)], [(32, 6, 0, 0), (19, 6, 0, 0), (11, 6, 0, 0)])
theorem oo_Mo_styleTokens_145 {kA : Nat → ClassId} : or_ok kA GG o_Mo_styleTokens_145 := by
  intro A ta ws vs hD hth hl hk hds hf
  have hl : vs.length = 34 := hl
  have hk : ∀ q ∈ ([(0, (2, 0, 0, [150])), (2, (2, 0, 0, [150])), (5, (0, 0, 1999, [])), (6, (0, 0, 4001, [])), (7, (0, 0, 255, [])), (8, (0, 32, 32, [])), (9, (0, 0, 255, [])), (10, (0, 10, 10, [])), (11, (0, 0, 4001, [])), (12, (0, 58, 58, [])), (19, (0, 0, 4001, [])), (20, (0, 123, 123, [])), (21, (0, 125, 125, [])), (22, (0, 40, 40, [])), (23, (0, 41, 41, [])), (24, (0, 43, 43, [])), (25, (0, 45, 45, [])), (26, (0, 42, 42, [])), (27, (0, 47, 47, [])), (28, (0, 60, 60, [])), (29, (0, 61, 61, [])), (30, (0, 62, 62, [])), (31, (0, 58, 58, [])), (32, (0, 0, 4001, []))] : List (Nat × tv_T)), tv_ok ta q.2 (n_v vs q.1) := hk
  obtain ⟨t0, hk⟩ := List.forall_mem_cons.mp hk
  have t0 : tv_ok ta (2, 0, 0, [150]) (n_v vs 0) := t0
  have r0 : ta (v_ad (n_v vs 0)) = some 150 := tv_rg t0
  obtain ⟨t2, hk⟩ := List.forall_mem_cons.mp hk
  have t2 : tv_ok ta (2, 0, 0, [150]) (n_v vs 2) := t2
  have r2 : ta (v_ad (n_v vs 2)) = some 150 := tv_rg t2
  obtain ⟨t5, hk⟩ := List.forall_mem_cons.mp hk
  have t5 : tv_ok ta (0, 0, 1999, []) (n_v vs 5) := t5
  have k5 : 0 ≤ v_iv (n_v vs 5) ∧ v_iv (n_v vs 5) ≤ 1999 := tv_rng t5
  obtain ⟨t6, hk⟩ := List.forall_mem_cons.mp hk
  have t6 : tv_ok ta (0, 0, 4001, []) (n_v vs 6) := t6
  have k6 : 0 ≤ v_iv (n_v vs 6) ∧ v_iv (n_v vs 6) ≤ 4001 := tv_rng t6
  obtain ⟨t7, hk⟩ := List.forall_mem_cons.mp hk
  have t7 : tv_ok ta (0, 0, 255, []) (n_v vs 7) := t7
  have k7 : 0 ≤ v_iv (n_v vs 7) ∧ v_iv (n_v vs 7) ≤ 255 := tv_rng t7
  obtain ⟨t8, hk⟩ := List.forall_mem_cons.mp hk
  have t8 : tv_ok ta (0, 32, 32, []) (n_v vs 8) := t8
  have k8 : 32 ≤ v_iv (n_v vs 8) ∧ v_iv (n_v vs 8) ≤ 32 := tv_rng t8
  obtain ⟨t9, hk⟩ := List.forall_mem_cons.mp hk
  have t9 : tv_ok ta (0, 0, 255, []) (n_v vs 9) := t9
  have k9 : 0 ≤ v_iv (n_v vs 9) ∧ v_iv (n_v vs 9) ≤ 255 := tv_rng t9
  obtain ⟨t10, hk⟩ := List.forall_mem_cons.mp hk
  have t10 : tv_ok ta (0, 10, 10, []) (n_v vs 10) := t10
  have k10 : 10 ≤ v_iv (n_v vs 10) ∧ v_iv (n_v vs 10) ≤ 10 := tv_rng t10
  obtain ⟨t11, hk⟩ := List.forall_mem_cons.mp hk
  have t11 : tv_ok ta (0, 0, 4001, []) (n_v vs 11) := t11
  have k11 : 0 ≤ v_iv (n_v vs 11) ∧ v_iv (n_v vs 11) ≤ 4001 := tv_rng t11
  obtain ⟨t12, hk⟩ := List.forall_mem_cons.mp hk
  have t12 : tv_ok ta (0, 58, 58, []) (n_v vs 12) := t12
  have k12 : 58 ≤ v_iv (n_v vs 12) ∧ v_iv (n_v vs 12) ≤ 58 := tv_rng t12
  obtain ⟨t19, hk⟩ := List.forall_mem_cons.mp hk
  have t19 : tv_ok ta (0, 0, 4001, []) (n_v vs 19) := t19
  have k19 : 0 ≤ v_iv (n_v vs 19) ∧ v_iv (n_v vs 19) ≤ 4001 := tv_rng t19
  obtain ⟨t20, hk⟩ := List.forall_mem_cons.mp hk
  have t20 : tv_ok ta (0, 123, 123, []) (n_v vs 20) := t20
  have k20 : 123 ≤ v_iv (n_v vs 20) ∧ v_iv (n_v vs 20) ≤ 123 := tv_rng t20
  obtain ⟨t21, hk⟩ := List.forall_mem_cons.mp hk
  have t21 : tv_ok ta (0, 125, 125, []) (n_v vs 21) := t21
  have k21 : 125 ≤ v_iv (n_v vs 21) ∧ v_iv (n_v vs 21) ≤ 125 := tv_rng t21
  obtain ⟨t22, hk⟩ := List.forall_mem_cons.mp hk
  have t22 : tv_ok ta (0, 40, 40, []) (n_v vs 22) := t22
  have k22 : 40 ≤ v_iv (n_v vs 22) ∧ v_iv (n_v vs 22) ≤ 40 := tv_rng t22
  obtain ⟨t23, hk⟩ := List.forall_mem_cons.mp hk
  have t23 : tv_ok ta (0, 41, 41, []) (n_v vs 23) := t23
  have k23 : 41 ≤ v_iv (n_v vs 23) ∧ v_iv (n_v vs 23) ≤ 41 := tv_rng t23
  obtain ⟨t24, hk⟩ := List.forall_mem_cons.mp hk
  have t24 : tv_ok ta (0, 43, 43, []) (n_v vs 24) := t24
  have k24 : 43 ≤ v_iv (n_v vs 24) ∧ v_iv (n_v vs 24) ≤ 43 := tv_rng t24
  obtain ⟨t25, hk⟩ := List.forall_mem_cons.mp hk
  have t25 : tv_ok ta (0, 45, 45, []) (n_v vs 25) := t25
  have k25 : 45 ≤ v_iv (n_v vs 25) ∧ v_iv (n_v vs 25) ≤ 45 := tv_rng t25
  obtain ⟨t26, hk⟩ := List.forall_mem_cons.mp hk
  have t26 : tv_ok ta (0, 42, 42, []) (n_v vs 26) := t26
  have k26 : 42 ≤ v_iv (n_v vs 26) ∧ v_iv (n_v vs 26) ≤ 42 := tv_rng t26
  obtain ⟨t27, hk⟩ := List.forall_mem_cons.mp hk
  have t27 : tv_ok ta (0, 47, 47, []) (n_v vs 27) := t27
  have k27 : 47 ≤ v_iv (n_v vs 27) ∧ v_iv (n_v vs 27) ≤ 47 := tv_rng t27
  obtain ⟨t28, hk⟩ := List.forall_mem_cons.mp hk
  have t28 : tv_ok ta (0, 60, 60, []) (n_v vs 28) := t28
  have k28 : 60 ≤ v_iv (n_v vs 28) ∧ v_iv (n_v vs 28) ≤ 60 := tv_rng t28
  obtain ⟨t29, hk⟩ := List.forall_mem_cons.mp hk
  have t29 : tv_ok ta (0, 61, 61, []) (n_v vs 29) := t29
  have k29 : 61 ≤ v_iv (n_v vs 29) ∧ v_iv (n_v vs 29) ≤ 61 := tv_rng t29
  obtain ⟨t30, hk⟩ := List.forall_mem_cons.mp hk
  have t30 : tv_ok ta (0, 62, 62, []) (n_v vs 30) := t30
  have k30 : 62 ≤ v_iv (n_v vs 30) ∧ v_iv (n_v vs 30) ≤ 62 := tv_rng t30
  obtain ⟨t31, hk⟩ := List.forall_mem_cons.mp hk
  have t31 : tv_ok ta (0, 58, 58, []) (n_v vs 31) := t31
  have k31 : 58 ≤ v_iv (n_v vs 31) ∧ v_iv (n_v vs 31) ≤ 58 := tv_rng t31
  obtain ⟨t32, hk⟩ := List.forall_mem_cons.mp hk
  have t32 : tv_ok ta (0, 0, 4001, []) (n_v vs 32) := t32
  have k32 : 0 ≤ v_iv (n_v vs 32) ∧ v_iv (n_v vs 32) ≤ 4001 := tv_rng t32
  have hds : ∀ q ∈ ([(32, 6, 0, 0), (19, 6, 0, 0), (11, 6, 0, 0)] : List of_T), n_iv vs q.2.1 + q.2.2.1 ≤ n_iv vs q.1 ∧ n_iv vs q.1 ≤ n_iv vs q.2.1 + q.2.2.2 := hds
  obtain ⟨d0, hds⟩ := List.forall_mem_cons.mp hds
  have d0 : v_iv (n_v vs 6) + 0 ≤ v_iv (n_v vs 32) ∧ v_iv (n_v vs 32) ≤ v_iv (n_v vs 6) + 0 := d0
  obtain ⟨d1, hds⟩ := List.forall_mem_cons.mp hds
  have d1 : v_iv (n_v vs 6) + 0 ≤ v_iv (n_v vs 19) ∧ v_iv (n_v vs 19) ≤ v_iv (n_v vs 6) + 0 := d1
  obtain ⟨d2, hds⟩ := List.forall_mem_cons.mp hds
  have d2 : v_iv (n_v vs 6) + 0 ≤ v_iv (n_v vs 11) ∧ v_iv (n_v vs 11) ≤ v_iv (n_v vs 6) + 0 := d2
  have hf : fc_ok [(20, [2, 5], [50, 2, 0, 157, 11, 2, 7, 0, 3, 2, 0, 157, 1, 1, 1, 3, 2, 0, 11, 1, 1]), (20, [32, 5], [30, -4001, -1, 0, 0, -2, 0, 0]), (24, [0, 2], []), (7, [12, 31], [0]), (7, [12, 30], [1]), (7, [12, 29], [1]), (7, [12, 28], [1]), (7, [12, 27], [1]), (7, [12, 26], [1]), (7, [12, 25], [1]), (7, [12, 24], [1]), (7, [12, 23], [1]), (7, [12, 22], [1]), (7, [12, 21], [1]), (7, [12, 20], [1]), (20, [2, 5], [50, 2, 0, 157, 11, 2, 7, 0, 3, 2, 0, 157, 1, 1, 1, 3, 2, 0, 11, 1, 1]), (20, [19, 5], [30, -4001, -1, 0, 0, -2, 0, 0]), (8, [12], [3]), (9, [5, 2], [11]), (20, [5, 2, 12], [50, 1, 1, 1010, 1001, 4, 11, 0, 6, 4, 2, 1, 0, 0, 1, 2, 1, 10, 1, 2, 1, 2, 9, 5, 3, 1, 1, 1, 0, 0, 256]), (20, [2, 5, 12], [50, 1, 0, 10, 4, 7, 0, 3, 2, 0, 10, 1, 1, 1, 2, 1, 2, 0, -1]), (20, [2], [50, 2, 0, 157, 11, 0, 3, 2, 0, 157, 2, 0, 11]), (20, [11, 2], [30, -4001, -1, 0, 0, -2, 1, 11]), (7, [9, 10], [1]), (20, [5, 2, 9], [50, 1, 1, 1010, 1001, 4, 11, 0, 6, 4, 2, 1, 0, 0, 1, 2, 1, 10, 1, 2, 1, 2, 9, 5, 3, 1, 1, 1, 0, 0, 256]), (20, [2, 5, 9], [50, 1, 0, 10, 4, 7, 0, 3, 2, 0, 10, 1, 1, 1, 2, 1, 2, 0, -1]), (7, [7, 8], [1]), (20, [5, 2, 7], [50, 1, 1, 1010, 1001, 4, 11, 0, 6, 4, 2, 1, 0, 0, 1, 2, 1, 10, 1, 2, 1, 2, 9, 5, 3, 1, 1, 1, 0, 0, 256]), (20, [2, 5, 7], [50, 1, 0, 10, 4, 7, 0, 3, 2, 0, 10, 1, 1, 1, 2, 1, 2, 0, -1]), (20, [2], [50, 2, 0, 157, 11, 0, 3, 2, 0, 157, 2, 0, 11]), (20, [6, 2], [30, -4001, -1, 0, 0, -2, 1, 11])] ta ws vs := hf
  obtain ⟨f0, hf⟩ := fc_un (by decide) hf
  have f0 : (w_fi ws (n_v vs 2) 157 ≤ v_iv (n_v vs 5)) ∧ (w_fi ws (n_v vs 2) 11 = v_iv (n_v vs 5)) := f0
  obtain ⟨f1, hf⟩ := fc_un (by decide) hf
  have f1 : (-1) * v_iv (n_v vs 32) + ((-2) * v_iv (n_v vs 5) + 0) ≤ (-4001) := f1
  obtain ⟨f2, hf⟩ := fc_un (by decide) hf
  have f2 : n_v vs 0 = n_v vs 2 := f2
  obtain ⟨f3, hf⟩ := fc_un (by decide) hf
  have f3 : v_iv (n_v vs 12) = v_iv (n_v vs 31) := f3
  obtain ⟨f4, hf⟩ := fc_un (by decide) hf
  have f4 : v_iv (n_v vs 12) ≠ v_iv (n_v vs 30) := f4
  obtain ⟨f5, hf⟩ := fc_un (by decide) hf
  have f5 : v_iv (n_v vs 12) ≠ v_iv (n_v vs 29) := f5
  obtain ⟨f6, hf⟩ := fc_un (by decide) hf
  have f6 : v_iv (n_v vs 12) ≠ v_iv (n_v vs 28) := f6
  obtain ⟨f7, hf⟩ := fc_un (by decide) hf
  have f7 : v_iv (n_v vs 12) ≠ v_iv (n_v vs 27) := f7
  obtain ⟨f8, hf⟩ := fc_un (by decide) hf
  have f8 : v_iv (n_v vs 12) ≠ v_iv (n_v vs 26) := f8
  obtain ⟨f9, hf⟩ := fc_un (by decide) hf
  have f9 : v_iv (n_v vs 12) ≠ v_iv (n_v vs 25) := f9
  obtain ⟨f10, hf⟩ := fc_un (by decide) hf
  have f10 : v_iv (n_v vs 12) ≠ v_iv (n_v vs 24) := f10
  obtain ⟨f11, hf⟩ := fc_un (by decide) hf
  have f11 : v_iv (n_v vs 12) ≠ v_iv (n_v vs 23) := f11
  obtain ⟨f12, hf⟩ := fc_un (by decide) hf
  have f12 : v_iv (n_v vs 12) ≠ v_iv (n_v vs 22) := f12
  obtain ⟨f13, hf⟩ := fc_un (by decide) hf
  have f13 : v_iv (n_v vs 12) ≠ v_iv (n_v vs 21) := f13
  obtain ⟨f14, hf⟩ := fc_un (by decide) hf
  have f14 : v_iv (n_v vs 12) ≠ v_iv (n_v vs 20) := f14
  obtain ⟨f15, hf⟩ := fc_un (by decide) hf
  have f15 : (w_fi ws (n_v vs 2) 157 ≤ v_iv (n_v vs 5)) ∧ (w_fi ws (n_v vs 2) 11 = v_iv (n_v vs 5)) := f15
  obtain ⟨f16, hf⟩ := fc_un (by decide) hf
  have f16 : (-1) * v_iv (n_v vs 19) + ((-2) * v_iv (n_v vs 5) + 0) ≤ (-4001) := f16
  obtain ⟨f17, hf⟩ := fc_un (by decide) hf
  have f17 : 0 ≤ v_iv (n_v vs 12) := f17
  obtain ⟨f18, hf⟩ := fc_un (by decide) hf
  have f18 : n_v vs 5 = w_fd ws (v_ad (n_v vs 2)) 11 := f18
  obtain ⟨f19, hf⟩ := fc_un (by decide) hf
  have f19 : ((v_iv (n_v vs 5) + 1) ≤ w_fi ws (n_v vs 2) 10) → (v_iv (n_v vs 12) = (w_ei ws (w_ar ws (n_v vs 2) 1) (v_iv (n_v vs 5)) % 256)) := f19
  obtain ⟨f20, hf⟩ := fc_un (by decide) hf
  have f20 : (w_fi ws (n_v vs 2) 10 ≤ v_iv (n_v vs 5)) → (v_iv (n_v vs 12) = (-1)) := f20
  obtain ⟨f21, hf⟩ := fc_un (by decide) hf
  have f21 : w_fi ws (n_v vs 2) 157 ≤ w_fi ws (n_v vs 2) 11 := f21
  obtain ⟨f22, hf⟩ := fc_un (by decide) hf
  have f22 : (-1) * v_iv (n_v vs 11) + ((-2) * w_fi ws (n_v vs 2) 11 + 0) ≤ (-4001) := f22
  obtain ⟨f23, hf⟩ := fc_un (by decide) hf
  have f23 : v_iv (n_v vs 9) ≠ v_iv (n_v vs 10) := f23
  obtain ⟨f24, hf⟩ := fc_un (by decide) hf
  have f24 : ((v_iv (n_v vs 5) + 1) ≤ w_fi ws (n_v vs 2) 10) → (v_iv (n_v vs 9) = (w_ei ws (w_ar ws (n_v vs 2) 1) (v_iv (n_v vs 5)) % 256)) := f24
  obtain ⟨f25, hf⟩ := fc_un (by decide) hf
  have f25 : (w_fi ws (n_v vs 2) 10 ≤ v_iv (n_v vs 5)) → (v_iv (n_v vs 9) = (-1)) := f25
  obtain ⟨f26, hf⟩ := fc_un (by decide) hf
  have f26 : v_iv (n_v vs 7) ≠ v_iv (n_v vs 8) := f26
  obtain ⟨f27, hf⟩ := fc_un (by decide) hf
  have f27 : ((v_iv (n_v vs 5) + 1) ≤ w_fi ws (n_v vs 2) 10) → (v_iv (n_v vs 7) = (w_ei ws (w_ar ws (n_v vs 2) 1) (v_iv (n_v vs 5)) % 256)) := f27
  obtain ⟨f28, hf⟩ := fc_un (by decide) hf
  have f28 : (w_fi ws (n_v vs 2) 10 ≤ v_iv (n_v vs 5)) → (v_iv (n_v vs 7) = (-1)) := f28
  obtain ⟨f29, hf⟩ := fc_un (by decide) hf
  have f29 : w_fi ws (n_v vs 2) 157 ≤ w_fi ws (n_v vs 2) 11 := f29
  obtain ⟨f30, hf⟩ := fc_un (by decide) hf
  have f30 : (-1) * v_iv (n_v vs 6) + ((-2) * w_fi ws (n_v vs 2) 11 + 0) ≤ (-4001) := f30
  have q2 : n_v vs 2 = n_v vs 0 := f2.symm
  rw [q2] at f0
  rw [q2] at f15
  rw [q2] at f18
  rw [q2] at f19
  rw [q2] at f20
  rw [q2] at f21
  rw [q2] at f22
  rw [q2] at f24
  rw [q2] at f25
  rw [q2] at f27
  rw [q2] at f28
  rw [q2] at f29
  rw [q2] at f30
  have cr_0_1 : ta (w_ar ws (n_v vs 0) 1) = some 151 := tv_rg (th_fd hD hth r0 (g := GG_150) rfl (k := 1) (t := (2, 0, 0, [151])) rfl rfl)
  have g18 : v_iv (n_v vs 5) = w_fi ws (n_v vs 0) 11 := congrArg v_iv f18
  have hK_0_1 : ∀ j : Int, 0 ≤ j → j < 2000 → (-128) ≤ w_ei ws (w_ar ws (n_v vs 0) 1) j ∧ w_ei ws (w_ar ws (n_v vs 0) 1) j ≤ 127 := fun j h0 h1 => th_el hD hth cr_0_1 (kd := 1) (n := 2000) (m := 2000) (lo := (-128)) (hi := 127) (rs := []) (L := []) rfl (by decide) (j := j.toNat) (by omega)
  have kz_0_10 : 0 ≤ w_fi ws (n_v vs 0) 10 ∧ w_fi ws (n_v vs 0) 10 ≤ 2000 := tv_rng (th_fd hD hth r0 (g := GG_150) rfl (k := 10) (t := (0, 0, 2000, [])) rfl rfl)
  have kz_0_11 : 0 ≤ w_fi ws (n_v vs 0) 11 ∧ w_fi ws (n_v vs 0) 11 ≤ 2000 := tv_rng (th_fd hD hth r0 (g := GG_150) rfl (k := 11) (t := (0, 0, 2000, [])) rfl rfl)
  have kz_0_157 : 0 ≤ w_fi ws (n_v vs 0) 157 ∧ w_fi ws (n_v vs 0) 157 ≤ 2010 := tv_rng (th_fd hD hth r0 (g := GG_150) rfl (k := 157) (t := (0, 0, 2010, [])) rfl rfl)
  obtain ⟨x, ex, hx⟩ := iv_ex (ta := ta) (lo := 0) (hi := 4001) (z := 0 + (1 * v_iv (n_v vs 6) + 0)) (by omega) (by omega) (by decide) (by decide)
  have ex2 : v_iv (Value.int x) = 0 + (1 * v_iv (n_v vs 6) + 0) := ex
  have ex3 : 0 ≤ v_iv (Value.int x) ∧ v_iv (Value.int x) ≤ 4001 := tv_rng hx
  have e_0 : n_v (vs ++ [Value.int x]) 0 = n_v vs 0 := n_v_old (by rw [hl]; decide)
  have e_2 : n_v (vs ++ [Value.int x]) 2 = n_v vs 2 := n_v_old (by rw [hl]; decide)
  have e_5 : n_v (vs ++ [Value.int x]) 5 = n_v vs 5 := n_v_old (by rw [hl]; decide)
  have e_34 : n_v (vs ++ [Value.int x]) 34 = Value.int x := n_v_new hl
  have nf0 : fc_1 (20, [2, 5], [50, 2, 0, 157, 11, 2, 7, 0, 3, 2, 0, 157, 1, 1, 1, 3, 2, 0, 11, 1, 1]) ws (vs ++ [Value.int x]) := by
    refine ⟨fun n hn => ?_, ?_⟩
    · have hn : n ∈ [2, 5] := hn
      rw [List.length_append, hl]
      simp only [List.mem_cons, List.not_mem_nil, or_false] at hn
      show n < 34 + 1; omega
    · show (w_fi ws (n_v (vs ++ [Value.int x]) 2) 157 ≤ v_iv (n_v (vs ++ [Value.int x]) 5)) ∧ (w_fi ws (n_v (vs ++ [Value.int x]) 2) 11 = v_iv (n_v (vs ++ [Value.int x]) 5))
      rw [e_2]
      rw [e_5]
      rw [q2]
      first | omega | grind
  have nf1 : fc_1 (20, [34, 5], [30, -4001, -1, 0, 0, -2, 0, 0]) ws (vs ++ [Value.int x]) := by
    refine ⟨fun n hn => ?_, ?_⟩
    · have hn : n ∈ [34, 5] := hn
      rw [List.length_append, hl]
      simp only [List.mem_cons, List.not_mem_nil, or_false] at hn
      show n < 34 + 1; omega
    · show (-1) * v_iv (n_v (vs ++ [Value.int x]) 34) + ((-2) * v_iv (n_v (vs ++ [Value.int x]) 5) + 0) ≤ (-4001)
      rw [e_5]
      rw [e_34]
      omega
  have nf2 : fc_1 (24, [0, 2], []) ws (vs ++ [Value.int x]) := by
    refine ⟨fun n hn => ?_, ?_⟩
    · have hn : n ∈ [0, 2] := hn
      rw [List.length_append, hl]
      simp only [List.mem_cons, List.not_mem_nil, or_false] at hn
      show n < 34 + 1; omega
    · show n_v (vs ++ [Value.int x]) 0 = n_v (vs ++ [Value.int x]) 2
      first | rfl | simp only [e_0, e_2, q2]
  obtain ⟨x0, e0, _, _⟩ := tv_int t6 rfl
  have e1 : v_iv (n_v vs 6) = x0.toInt := by rw [e0]; rfl
  have ho : sy_ofs (vs ++ [Value.int x]) (34, 6, 0, 0) := by
    refine ⟨x, x0, by rw [List.getElem?_append_right (by rw [hl]; decide), hl]; rfl, ?_, ?_, ?_⟩
    · rw [List.getElem?_append_left (by rw [hl]; decide)]; exact n_v_some (by rw [hl]; decide) e0
    · show x0.toInt + 0 ≤ x.toInt; omega
    · show x.toInt ≤ x0.toInt + 0; omega
  exact ⟨fun q hq => (by cases hq), [Value.int x], ag_one hx, List.forall_mem_cons.mpr ⟨⟨by decide, nf0⟩, List.forall_mem_cons.mpr ⟨⟨by decide, nf1⟩, List.forall_mem_cons.mpr ⟨⟨by decide, nf2⟩, (fun _ h => (by cases h))⟩⟩⟩, List.forall_mem_cons.mpr ⟨ho, (fun _ h => (by cases h))⟩⟩
def o_Mo_styleTokens_146 : or_T := (339, 35, [(0, (2, 0, 0, [150])), (2, (2, 0, 0, [150])), (5, (0, 0, 1999, [])), (6, (0, 0, 4001, [])), (7, (0, 0, 255, [])), (8, (0, 32, 32, [])), (9, (0, 0, 255, [])), (10, (0, 10, 10, [])), (11, (0, 0, 4001, [])), (12, (0, 60, 96, [])), (19, (0, 0, 4001, [])), (20, (0, 123, 123, [])), (21, (0, 125, 125, [])), (22, (0, 40, 40, [])), (23, (0, 41, 41, [])), (24, (0, 43, 43, [])), (25, (0, 45, 45, [])), (26, (0, 42, 42, [])), (27, (0, 47, 47, [])), (28, (0, 60, 60, [])), (29, (0, 61, 61, [])), (30, (0, 62, 62, [])), (31, (0, 58, 58, [])), (32, (0, 44, 44, [])), (33, (0, 59, 59, []))], [(7, [12, 33], [1]), (7, [12, 32], [1]), (7, [12, 31], [1]), (7, [12, 30], [1]), (7, [12, 29], [1]), (7, [12, 28], [1]), (7, [12, 27], [1]), (7, [12, 26], [1]), (7, [12, 25], [1]), (7, [12, 24], [1]), (7, [12, 23], [1]), (7, [12, 22], [1]), (7, [12, 21], [1]), (7, [12, 20], [1]), (20, [2, 5], [50, 2, 0, 157, 11, 2, 7, 0, 3, 2, 0, 157, 1, 1, 1, 3, 2, 0, 11, 1, 1]), (20, [19, 5], [30, -4001, -1, 0, 0, -2, 0, 0]), (24, [0, 2], []), (8, [12], [3]), (9, [5, 2], [11]), (20, [5, 2, 12], [50, 1, 1, 1010, 1001, 4, 11, 0, 6, 4, 2, 1, 0, 0, 1, 2, 1, 10, 1, 2, 1, 2, 9, 5, 3, 1, 1, 1, 0, 0, 256]), (20, [2, 5, 12], [50, 1, 0, 10, 4, 7, 0, 3, 2, 0, 10, 1, 1, 1, 2, 1, 2, 0, -1]), (20, [2], [50, 2, 0, 157, 11, 0, 3, 2, 0, 157, 2, 0, 11]), (20, [11, 2], [30, -4001, -1, 0, 0, -2, 1, 11]), (7, [9, 10], [1]), (20, [5, 2, 9], [50, 1, 1, 1010, 1001, 4, 11, 0, 6, 4, 2, 1, 0, 0, 1, 2, 1, 10, 1, 2, 1, 2, 9, 5, 3, 1, 1, 1, 0, 0, 256]), (20, [2, 5, 9], [50, 1, 0, 10, 4, 7, 0, 3, 2, 0, 10, 1, 1, 1, 2, 1, 2, 0, -1]), (7, [7, 8], [1]), (20, [5, 2, 7], [50, 1, 1, 1010, 1001, 4, 11, 0, 6, 4, 2, 1, 0, 0, 1, 2, 1, 10, 1, 2, 1, 2, 9, 5, 3, 1, 1, 1, 0, 0, 256]), (20, [2, 5, 7], [50, 1, 0, 10, 4, 7, 0, 3, 2, 0, 10, 1, 1, 1, 2, 1, 2, 0, -1]), (20, [2], [50, 2, 0, 157, 11, 0, 3, 2, 0, 157, 2, 0, 11]), (20, [6, 2], [30, -4001, -1, 0, 0, -2, 1, 11])], [], [(0, 0, 4001, [])], [(20, [2, 5], [50, 2, 0, 157, 11, 2, 7, 0, 3, 2, 0, 157, 1, 1, 1, 3, 2, 0, 11, 1, 1]), (20, [35, 5], [30, -4001, -1, 0, 0, -2, 0, 0]), (24, [0, 2], [])], [(35, 6, 0, 0)], [(19, 6, 0, 0), (11, 6, 0, 0)])
theorem oo_Mo_styleTokens_146 {kA : Nat → ClassId} : or_ok kA GG o_Mo_styleTokens_146 := by
  intro A ta ws vs hD hth hl hk hds hf
  have hl : vs.length = 35 := hl
  have hk : ∀ q ∈ ([(0, (2, 0, 0, [150])), (2, (2, 0, 0, [150])), (5, (0, 0, 1999, [])), (6, (0, 0, 4001, [])), (7, (0, 0, 255, [])), (8, (0, 32, 32, [])), (9, (0, 0, 255, [])), (10, (0, 10, 10, [])), (11, (0, 0, 4001, [])), (12, (0, 60, 96, [])), (19, (0, 0, 4001, [])), (20, (0, 123, 123, [])), (21, (0, 125, 125, [])), (22, (0, 40, 40, [])), (23, (0, 41, 41, [])), (24, (0, 43, 43, [])), (25, (0, 45, 45, [])), (26, (0, 42, 42, [])), (27, (0, 47, 47, [])), (28, (0, 60, 60, [])), (29, (0, 61, 61, [])), (30, (0, 62, 62, [])), (31, (0, 58, 58, [])), (32, (0, 44, 44, [])), (33, (0, 59, 59, []))] : List (Nat × tv_T)), tv_ok ta q.2 (n_v vs q.1) := hk
  obtain ⟨t0, hk⟩ := List.forall_mem_cons.mp hk
  have t0 : tv_ok ta (2, 0, 0, [150]) (n_v vs 0) := t0
  have r0 : ta (v_ad (n_v vs 0)) = some 150 := tv_rg t0
  obtain ⟨t2, hk⟩ := List.forall_mem_cons.mp hk
  have t2 : tv_ok ta (2, 0, 0, [150]) (n_v vs 2) := t2
  have r2 : ta (v_ad (n_v vs 2)) = some 150 := tv_rg t2
  obtain ⟨t5, hk⟩ := List.forall_mem_cons.mp hk
  have t5 : tv_ok ta (0, 0, 1999, []) (n_v vs 5) := t5
  have k5 : 0 ≤ v_iv (n_v vs 5) ∧ v_iv (n_v vs 5) ≤ 1999 := tv_rng t5
  obtain ⟨t6, hk⟩ := List.forall_mem_cons.mp hk
  have t6 : tv_ok ta (0, 0, 4001, []) (n_v vs 6) := t6
  have k6 : 0 ≤ v_iv (n_v vs 6) ∧ v_iv (n_v vs 6) ≤ 4001 := tv_rng t6
  obtain ⟨t7, hk⟩ := List.forall_mem_cons.mp hk
  have t7 : tv_ok ta (0, 0, 255, []) (n_v vs 7) := t7
  have k7 : 0 ≤ v_iv (n_v vs 7) ∧ v_iv (n_v vs 7) ≤ 255 := tv_rng t7
  obtain ⟨t8, hk⟩ := List.forall_mem_cons.mp hk
  have t8 : tv_ok ta (0, 32, 32, []) (n_v vs 8) := t8
  have k8 : 32 ≤ v_iv (n_v vs 8) ∧ v_iv (n_v vs 8) ≤ 32 := tv_rng t8
  obtain ⟨t9, hk⟩ := List.forall_mem_cons.mp hk
  have t9 : tv_ok ta (0, 0, 255, []) (n_v vs 9) := t9
  have k9 : 0 ≤ v_iv (n_v vs 9) ∧ v_iv (n_v vs 9) ≤ 255 := tv_rng t9
  obtain ⟨t10, hk⟩ := List.forall_mem_cons.mp hk
  have t10 : tv_ok ta (0, 10, 10, []) (n_v vs 10) := t10
  have k10 : 10 ≤ v_iv (n_v vs 10) ∧ v_iv (n_v vs 10) ≤ 10 := tv_rng t10
  obtain ⟨t11, hk⟩ := List.forall_mem_cons.mp hk
  have t11 : tv_ok ta (0, 0, 4001, []) (n_v vs 11) := t11
  have k11 : 0 ≤ v_iv (n_v vs 11) ∧ v_iv (n_v vs 11) ≤ 4001 := tv_rng t11
  obtain ⟨t12, hk⟩ := List.forall_mem_cons.mp hk
  have t12 : tv_ok ta (0, 60, 96, []) (n_v vs 12) := t12
  have k12 : 60 ≤ v_iv (n_v vs 12) ∧ v_iv (n_v vs 12) ≤ 96 := tv_rng t12
  obtain ⟨t19, hk⟩ := List.forall_mem_cons.mp hk
  have t19 : tv_ok ta (0, 0, 4001, []) (n_v vs 19) := t19
  have k19 : 0 ≤ v_iv (n_v vs 19) ∧ v_iv (n_v vs 19) ≤ 4001 := tv_rng t19
  obtain ⟨t20, hk⟩ := List.forall_mem_cons.mp hk
  have t20 : tv_ok ta (0, 123, 123, []) (n_v vs 20) := t20
  have k20 : 123 ≤ v_iv (n_v vs 20) ∧ v_iv (n_v vs 20) ≤ 123 := tv_rng t20
  obtain ⟨t21, hk⟩ := List.forall_mem_cons.mp hk
  have t21 : tv_ok ta (0, 125, 125, []) (n_v vs 21) := t21
  have k21 : 125 ≤ v_iv (n_v vs 21) ∧ v_iv (n_v vs 21) ≤ 125 := tv_rng t21
  obtain ⟨t22, hk⟩ := List.forall_mem_cons.mp hk
  have t22 : tv_ok ta (0, 40, 40, []) (n_v vs 22) := t22
  have k22 : 40 ≤ v_iv (n_v vs 22) ∧ v_iv (n_v vs 22) ≤ 40 := tv_rng t22
  obtain ⟨t23, hk⟩ := List.forall_mem_cons.mp hk
  have t23 : tv_ok ta (0, 41, 41, []) (n_v vs 23) := t23
  have k23 : 41 ≤ v_iv (n_v vs 23) ∧ v_iv (n_v vs 23) ≤ 41 := tv_rng t23
  obtain ⟨t24, hk⟩ := List.forall_mem_cons.mp hk
  have t24 : tv_ok ta (0, 43, 43, []) (n_v vs 24) := t24
  have k24 : 43 ≤ v_iv (n_v vs 24) ∧ v_iv (n_v vs 24) ≤ 43 := tv_rng t24
  obtain ⟨t25, hk⟩ := List.forall_mem_cons.mp hk
  have t25 : tv_ok ta (0, 45, 45, []) (n_v vs 25) := t25
  have k25 : 45 ≤ v_iv (n_v vs 25) ∧ v_iv (n_v vs 25) ≤ 45 := tv_rng t25
  obtain ⟨t26, hk⟩ := List.forall_mem_cons.mp hk
  have t26 : tv_ok ta (0, 42, 42, []) (n_v vs 26) := t26
  have k26 : 42 ≤ v_iv (n_v vs 26) ∧ v_iv (n_v vs 26) ≤ 42 := tv_rng t26
  obtain ⟨t27, hk⟩ := List.forall_mem_cons.mp hk
  have t27 : tv_ok ta (0, 47, 47, []) (n_v vs 27) := t27
  have k27 : 47 ≤ v_iv (n_v vs 27) ∧ v_iv (n_v vs 27) ≤ 47 := tv_rng t27
  obtain ⟨t28, hk⟩ := List.forall_mem_cons.mp hk
  have t28 : tv_ok ta (0, 60, 60, []) (n_v vs 28) := t28
  have k28 : 60 ≤ v_iv (n_v vs 28) ∧ v_iv (n_v vs 28) ≤ 60 := tv_rng t28
  obtain ⟨t29, hk⟩ := List.forall_mem_cons.mp hk
  have t29 : tv_ok ta (0, 61, 61, []) (n_v vs 29) := t29
  have k29 : 61 ≤ v_iv (n_v vs 29) ∧ v_iv (n_v vs 29) ≤ 61 := tv_rng t29
  obtain ⟨t30, hk⟩ := List.forall_mem_cons.mp hk
  have t30 : tv_ok ta (0, 62, 62, []) (n_v vs 30) := t30
  have k30 : 62 ≤ v_iv (n_v vs 30) ∧ v_iv (n_v vs 30) ≤ 62 := tv_rng t30
  obtain ⟨t31, hk⟩ := List.forall_mem_cons.mp hk
  have t31 : tv_ok ta (0, 58, 58, []) (n_v vs 31) := t31
  have k31 : 58 ≤ v_iv (n_v vs 31) ∧ v_iv (n_v vs 31) ≤ 58 := tv_rng t31
  obtain ⟨t32, hk⟩ := List.forall_mem_cons.mp hk
  have t32 : tv_ok ta (0, 44, 44, []) (n_v vs 32) := t32
  have k32 : 44 ≤ v_iv (n_v vs 32) ∧ v_iv (n_v vs 32) ≤ 44 := tv_rng t32
  obtain ⟨t33, hk⟩ := List.forall_mem_cons.mp hk
  have t33 : tv_ok ta (0, 59, 59, []) (n_v vs 33) := t33
  have k33 : 59 ≤ v_iv (n_v vs 33) ∧ v_iv (n_v vs 33) ≤ 59 := tv_rng t33
  have hds : ∀ q ∈ ([(19, 6, 0, 0), (11, 6, 0, 0)] : List of_T), n_iv vs q.2.1 + q.2.2.1 ≤ n_iv vs q.1 ∧ n_iv vs q.1 ≤ n_iv vs q.2.1 + q.2.2.2 := hds
  obtain ⟨d0, hds⟩ := List.forall_mem_cons.mp hds
  have d0 : v_iv (n_v vs 6) + 0 ≤ v_iv (n_v vs 19) ∧ v_iv (n_v vs 19) ≤ v_iv (n_v vs 6) + 0 := d0
  obtain ⟨d1, hds⟩ := List.forall_mem_cons.mp hds
  have d1 : v_iv (n_v vs 6) + 0 ≤ v_iv (n_v vs 11) ∧ v_iv (n_v vs 11) ≤ v_iv (n_v vs 6) + 0 := d1
  have hf : fc_ok [(7, [12, 33], [1]), (7, [12, 32], [1]), (7, [12, 31], [1]), (7, [12, 30], [1]), (7, [12, 29], [1]), (7, [12, 28], [1]), (7, [12, 27], [1]), (7, [12, 26], [1]), (7, [12, 25], [1]), (7, [12, 24], [1]), (7, [12, 23], [1]), (7, [12, 22], [1]), (7, [12, 21], [1]), (7, [12, 20], [1]), (20, [2, 5], [50, 2, 0, 157, 11, 2, 7, 0, 3, 2, 0, 157, 1, 1, 1, 3, 2, 0, 11, 1, 1]), (20, [19, 5], [30, -4001, -1, 0, 0, -2, 0, 0]), (24, [0, 2], []), (8, [12], [3]), (9, [5, 2], [11]), (20, [5, 2, 12], [50, 1, 1, 1010, 1001, 4, 11, 0, 6, 4, 2, 1, 0, 0, 1, 2, 1, 10, 1, 2, 1, 2, 9, 5, 3, 1, 1, 1, 0, 0, 256]), (20, [2, 5, 12], [50, 1, 0, 10, 4, 7, 0, 3, 2, 0, 10, 1, 1, 1, 2, 1, 2, 0, -1]), (20, [2], [50, 2, 0, 157, 11, 0, 3, 2, 0, 157, 2, 0, 11]), (20, [11, 2], [30, -4001, -1, 0, 0, -2, 1, 11]), (7, [9, 10], [1]), (20, [5, 2, 9], [50, 1, 1, 1010, 1001, 4, 11, 0, 6, 4, 2, 1, 0, 0, 1, 2, 1, 10, 1, 2, 1, 2, 9, 5, 3, 1, 1, 1, 0, 0, 256]), (20, [2, 5, 9], [50, 1, 0, 10, 4, 7, 0, 3, 2, 0, 10, 1, 1, 1, 2, 1, 2, 0, -1]), (7, [7, 8], [1]), (20, [5, 2, 7], [50, 1, 1, 1010, 1001, 4, 11, 0, 6, 4, 2, 1, 0, 0, 1, 2, 1, 10, 1, 2, 1, 2, 9, 5, 3, 1, 1, 1, 0, 0, 256]), (20, [2, 5, 7], [50, 1, 0, 10, 4, 7, 0, 3, 2, 0, 10, 1, 1, 1, 2, 1, 2, 0, -1]), (20, [2], [50, 2, 0, 157, 11, 0, 3, 2, 0, 157, 2, 0, 11]), (20, [6, 2], [30, -4001, -1, 0, 0, -2, 1, 11])] ta ws vs := hf
  obtain ⟨f0, hf⟩ := fc_un (by decide) hf
  have f0 : v_iv (n_v vs 12) ≠ v_iv (n_v vs 33) := f0
  obtain ⟨f1, hf⟩ := fc_un (by decide) hf
  have f1 : v_iv (n_v vs 12) ≠ v_iv (n_v vs 32) := f1
  obtain ⟨f2, hf⟩ := fc_un (by decide) hf
  have f2 : v_iv (n_v vs 12) ≠ v_iv (n_v vs 31) := f2
  obtain ⟨f3, hf⟩ := fc_un (by decide) hf
  have f3 : v_iv (n_v vs 12) ≠ v_iv (n_v vs 30) := f3
  obtain ⟨f4, hf⟩ := fc_un (by decide) hf
  have f4 : v_iv (n_v vs 12) ≠ v_iv (n_v vs 29) := f4
  obtain ⟨f5, hf⟩ := fc_un (by decide) hf
  have f5 : v_iv (n_v vs 12) ≠ v_iv (n_v vs 28) := f5
  obtain ⟨f6, hf⟩ := fc_un (by decide) hf
  have f6 : v_iv (n_v vs 12) ≠ v_iv (n_v vs 27) := f6
  obtain ⟨f7, hf⟩ := fc_un (by decide) hf
  have f7 : v_iv (n_v vs 12) ≠ v_iv (n_v vs 26) := f7
  obtain ⟨f8, hf⟩ := fc_un (by decide) hf
  have f8 : v_iv (n_v vs 12) ≠ v_iv (n_v vs 25) := f8
  obtain ⟨f9, hf⟩ := fc_un (by decide) hf
  have f9 : v_iv (n_v vs 12) ≠ v_iv (n_v vs 24) := f9
  obtain ⟨f10, hf⟩ := fc_un (by decide) hf
  have f10 : v_iv (n_v vs 12) ≠ v_iv (n_v vs 23) := f10
  obtain ⟨f11, hf⟩ := fc_un (by decide) hf
  have f11 : v_iv (n_v vs 12) ≠ v_iv (n_v vs 22) := f11
  obtain ⟨f12, hf⟩ := fc_un (by decide) hf
  have f12 : v_iv (n_v vs 12) ≠ v_iv (n_v vs 21) := f12
  obtain ⟨f13, hf⟩ := fc_un (by decide) hf
  have f13 : v_iv (n_v vs 12) ≠ v_iv (n_v vs 20) := f13
  obtain ⟨f14, hf⟩ := fc_un (by decide) hf
  have f14 : (w_fi ws (n_v vs 2) 157 ≤ v_iv (n_v vs 5)) ∧ (w_fi ws (n_v vs 2) 11 = v_iv (n_v vs 5)) := f14
  obtain ⟨f15, hf⟩ := fc_un (by decide) hf
  have f15 : (-1) * v_iv (n_v vs 19) + ((-2) * v_iv (n_v vs 5) + 0) ≤ (-4001) := f15
  obtain ⟨f16, hf⟩ := fc_un (by decide) hf
  have f16 : n_v vs 0 = n_v vs 2 := f16
  obtain ⟨f17, hf⟩ := fc_un (by decide) hf
  have f17 : 0 ≤ v_iv (n_v vs 12) := f17
  obtain ⟨f18, hf⟩ := fc_un (by decide) hf
  have f18 : n_v vs 5 = w_fd ws (v_ad (n_v vs 2)) 11 := f18
  obtain ⟨f19, hf⟩ := fc_un (by decide) hf
  have f19 : ((v_iv (n_v vs 5) + 1) ≤ w_fi ws (n_v vs 2) 10) → (v_iv (n_v vs 12) = (w_ei ws (w_ar ws (n_v vs 2) 1) (v_iv (n_v vs 5)) % 256)) := f19
  obtain ⟨f20, hf⟩ := fc_un (by decide) hf
  have f20 : (w_fi ws (n_v vs 2) 10 ≤ v_iv (n_v vs 5)) → (v_iv (n_v vs 12) = (-1)) := f20
  obtain ⟨f21, hf⟩ := fc_un (by decide) hf
  have f21 : w_fi ws (n_v vs 2) 157 ≤ w_fi ws (n_v vs 2) 11 := f21
  obtain ⟨f22, hf⟩ := fc_un (by decide) hf
  have f22 : (-1) * v_iv (n_v vs 11) + ((-2) * w_fi ws (n_v vs 2) 11 + 0) ≤ (-4001) := f22
  obtain ⟨f23, hf⟩ := fc_un (by decide) hf
  have f23 : v_iv (n_v vs 9) ≠ v_iv (n_v vs 10) := f23
  obtain ⟨f24, hf⟩ := fc_un (by decide) hf
  have f24 : ((v_iv (n_v vs 5) + 1) ≤ w_fi ws (n_v vs 2) 10) → (v_iv (n_v vs 9) = (w_ei ws (w_ar ws (n_v vs 2) 1) (v_iv (n_v vs 5)) % 256)) := f24
  obtain ⟨f25, hf⟩ := fc_un (by decide) hf
  have f25 : (w_fi ws (n_v vs 2) 10 ≤ v_iv (n_v vs 5)) → (v_iv (n_v vs 9) = (-1)) := f25
  obtain ⟨f26, hf⟩ := fc_un (by decide) hf
  have f26 : v_iv (n_v vs 7) ≠ v_iv (n_v vs 8) := f26
  obtain ⟨f27, hf⟩ := fc_un (by decide) hf
  have f27 : ((v_iv (n_v vs 5) + 1) ≤ w_fi ws (n_v vs 2) 10) → (v_iv (n_v vs 7) = (w_ei ws (w_ar ws (n_v vs 2) 1) (v_iv (n_v vs 5)) % 256)) := f27
  obtain ⟨f28, hf⟩ := fc_un (by decide) hf
  have f28 : (w_fi ws (n_v vs 2) 10 ≤ v_iv (n_v vs 5)) → (v_iv (n_v vs 7) = (-1)) := f28
  obtain ⟨f29, hf⟩ := fc_un (by decide) hf
  have f29 : w_fi ws (n_v vs 2) 157 ≤ w_fi ws (n_v vs 2) 11 := f29
  obtain ⟨f30, hf⟩ := fc_un (by decide) hf
  have f30 : (-1) * v_iv (n_v vs 6) + ((-2) * w_fi ws (n_v vs 2) 11 + 0) ≤ (-4001) := f30
  have q2 : n_v vs 2 = n_v vs 0 := f16.symm
  rw [q2] at f14
  rw [q2] at f18
  rw [q2] at f19
  rw [q2] at f20
  rw [q2] at f21
  rw [q2] at f22
  rw [q2] at f24
  rw [q2] at f25
  rw [q2] at f27
  rw [q2] at f28
  rw [q2] at f29
  rw [q2] at f30
  have cr_0_1 : ta (w_ar ws (n_v vs 0) 1) = some 151 := tv_rg (th_fd hD hth r0 (g := GG_150) rfl (k := 1) (t := (2, 0, 0, [151])) rfl rfl)
  have g18 : v_iv (n_v vs 5) = w_fi ws (n_v vs 0) 11 := congrArg v_iv f18
  have hK_0_1 : ∀ j : Int, 0 ≤ j → j < 2000 → (-128) ≤ w_ei ws (w_ar ws (n_v vs 0) 1) j ∧ w_ei ws (w_ar ws (n_v vs 0) 1) j ≤ 127 := fun j h0 h1 => th_el hD hth cr_0_1 (kd := 1) (n := 2000) (m := 2000) (lo := (-128)) (hi := 127) (rs := []) (L := []) rfl (by decide) (j := j.toNat) (by omega)
  have kz_0_10 : 0 ≤ w_fi ws (n_v vs 0) 10 ∧ w_fi ws (n_v vs 0) 10 ≤ 2000 := tv_rng (th_fd hD hth r0 (g := GG_150) rfl (k := 10) (t := (0, 0, 2000, [])) rfl rfl)
  have kz_0_11 : 0 ≤ w_fi ws (n_v vs 0) 11 ∧ w_fi ws (n_v vs 0) 11 ≤ 2000 := tv_rng (th_fd hD hth r0 (g := GG_150) rfl (k := 11) (t := (0, 0, 2000, [])) rfl rfl)
  have kz_0_157 : 0 ≤ w_fi ws (n_v vs 0) 157 ∧ w_fi ws (n_v vs 0) 157 ≤ 2010 := tv_rng (th_fd hD hth r0 (g := GG_150) rfl (k := 157) (t := (0, 0, 2010, [])) rfl rfl)
  obtain ⟨x, ex, hx⟩ := iv_ex (ta := ta) (lo := 0) (hi := 4001) (z := 0 + (1 * v_iv (n_v vs 6) + 0)) (by omega) (by omega) (by decide) (by decide)
  have ex2 : v_iv (Value.int x) = 0 + (1 * v_iv (n_v vs 6) + 0) := ex
  have ex3 : 0 ≤ v_iv (Value.int x) ∧ v_iv (Value.int x) ≤ 4001 := tv_rng hx
  have e_0 : n_v (vs ++ [Value.int x]) 0 = n_v vs 0 := n_v_old (by rw [hl]; decide)
  have e_2 : n_v (vs ++ [Value.int x]) 2 = n_v vs 2 := n_v_old (by rw [hl]; decide)
  have e_5 : n_v (vs ++ [Value.int x]) 5 = n_v vs 5 := n_v_old (by rw [hl]; decide)
  have e_35 : n_v (vs ++ [Value.int x]) 35 = Value.int x := n_v_new hl
  have nf0 : fc_1 (20, [2, 5], [50, 2, 0, 157, 11, 2, 7, 0, 3, 2, 0, 157, 1, 1, 1, 3, 2, 0, 11, 1, 1]) ws (vs ++ [Value.int x]) := by
    refine ⟨fun n hn => ?_, ?_⟩
    · have hn : n ∈ [2, 5] := hn
      rw [List.length_append, hl]
      simp only [List.mem_cons, List.not_mem_nil, or_false] at hn
      show n < 35 + 1; omega
    · show (w_fi ws (n_v (vs ++ [Value.int x]) 2) 157 ≤ v_iv (n_v (vs ++ [Value.int x]) 5)) ∧ (w_fi ws (n_v (vs ++ [Value.int x]) 2) 11 = v_iv (n_v (vs ++ [Value.int x]) 5))
      rw [e_2]
      rw [e_5]
      rw [q2]
      first | omega | grind
  have nf1 : fc_1 (20, [35, 5], [30, -4001, -1, 0, 0, -2, 0, 0]) ws (vs ++ [Value.int x]) := by
    refine ⟨fun n hn => ?_, ?_⟩
    · have hn : n ∈ [35, 5] := hn
      rw [List.length_append, hl]
      simp only [List.mem_cons, List.not_mem_nil, or_false] at hn
      show n < 35 + 1; omega
    · show (-1) * v_iv (n_v (vs ++ [Value.int x]) 35) + ((-2) * v_iv (n_v (vs ++ [Value.int x]) 5) + 0) ≤ (-4001)
      rw [e_5]
      rw [e_35]
      omega
  have nf2 : fc_1 (24, [0, 2], []) ws (vs ++ [Value.int x]) := by
    refine ⟨fun n hn => ?_, ?_⟩
    · have hn : n ∈ [0, 2] := hn
      rw [List.length_append, hl]
      simp only [List.mem_cons, List.not_mem_nil, or_false] at hn
      show n < 35 + 1; omega
    · show n_v (vs ++ [Value.int x]) 0 = n_v (vs ++ [Value.int x]) 2
      first | rfl | simp only [e_0, e_2, q2]
  obtain ⟨x0, e0, _, _⟩ := tv_int t6 rfl
  have e1 : v_iv (n_v vs 6) = x0.toInt := by rw [e0]; rfl
  have ho : sy_ofs (vs ++ [Value.int x]) (35, 6, 0, 0) := by
    refine ⟨x, x0, by rw [List.getElem?_append_right (by rw [hl]; decide), hl]; rfl, ?_, ?_, ?_⟩
    · rw [List.getElem?_append_left (by rw [hl]; decide)]; exact n_v_some (by rw [hl]; decide) e0
    · show x0.toInt + 0 ≤ x.toInt; omega
    · show x.toInt ≤ x0.toInt + 0; omega
  exact ⟨fun q hq => (by cases hq), [Value.int x], ag_one hx, List.forall_mem_cons.mpr ⟨⟨by decide, nf0⟩, List.forall_mem_cons.mpr ⟨⟨by decide, nf1⟩, List.forall_mem_cons.mpr ⟨⟨by decide, nf2⟩, (fun _ h => (by cases h))⟩⟩⟩, List.forall_mem_cons.mpr ⟨ho, (fun _ h => (by cases h))⟩⟩
def o_Mo_styleTokens_147 : or_T := (334, 34, [(0, (2, 0, 0, [150])), (2, (2, 0, 0, [150])), (5, (0, 0, 1999, [])), (6, (0, 0, 4001, [])), (7, (0, 0, 255, [])), (8, (0, 32, 32, [])), (9, (0, 0, 255, [])), (10, (0, 10, 10, [])), (11, (0, 0, 4001, [])), (12, (0, 59, 59, [])), (19, (0, 0, 4001, [])), (20, (0, 123, 123, [])), (21, (0, 125, 125, [])), (22, (0, 40, 40, [])), (23, (0, 41, 41, [])), (24, (0, 43, 43, [])), (25, (0, 45, 45, [])), (26, (0, 42, 42, [])), (27, (0, 47, 47, [])), (28, (0, 60, 60, [])), (29, (0, 61, 61, [])), (30, (0, 62, 62, [])), (31, (0, 58, 58, [])), (32, (0, 44, 44, [])), (33, (0, 59, 59, []))], [(7, [12, 33], [0]), (7, [12, 32], [1]), (7, [12, 31], [1]), (7, [12, 30], [1]), (7, [12, 29], [1]), (7, [12, 28], [1]), (7, [12, 27], [1]), (7, [12, 26], [1]), (7, [12, 25], [1]), (7, [12, 24], [1]), (7, [12, 23], [1]), (7, [12, 22], [1]), (7, [12, 21], [1]), (7, [12, 20], [1]), (20, [2, 5], [50, 2, 0, 157, 11, 2, 7, 0, 3, 2, 0, 157, 1, 1, 1, 3, 2, 0, 11, 1, 1]), (20, [19, 5], [30, -4001, -1, 0, 0, -2, 0, 0]), (24, [0, 2], []), (8, [12], [3]), (9, [5, 2], [11]), (20, [5, 2, 12], [50, 1, 1, 1010, 1001, 4, 11, 0, 6, 4, 2, 1, 0, 0, 1, 2, 1, 10, 1, 2, 1, 2, 9, 5, 3, 1, 1, 1, 0, 0, 256]), (20, [2, 5, 12], [50, 1, 0, 10, 4, 7, 0, 3, 2, 0, 10, 1, 1, 1, 2, 1, 2, 0, -1]), (20, [2], [50, 2, 0, 157, 11, 0, 3, 2, 0, 157, 2, 0, 11]), (20, [11, 2], [30, -4001, -1, 0, 0, -2, 1, 11]), (7, [9, 10], [1]), (20, [5, 2, 9], [50, 1, 1, 1010, 1001, 4, 11, 0, 6, 4, 2, 1, 0, 0, 1, 2, 1, 10, 1, 2, 1, 2, 9, 5, 3, 1, 1, 1, 0, 0, 256]), (20, [2, 5, 9], [50, 1, 0, 10, 4, 7, 0, 3, 2, 0, 10, 1, 1, 1, 2, 1, 2, 0, -1]), (7, [7, 8], [1]), (20, [5, 2, 7], [50, 1, 1, 1010, 1001, 4, 11, 0, 6, 4, 2, 1, 0, 0, 1, 2, 1, 10, 1, 2, 1, 2, 9, 5, 3, 1, 1, 1, 0, 0, 256]), (20, [2, 5, 7], [50, 1, 0, 10, 4, 7, 0, 3, 2, 0, 10, 1, 1, 1, 2, 1, 2, 0, -1]), (20, [2], [50, 2, 0, 157, 11, 0, 3, 2, 0, 157, 2, 0, 11]), (20, [6, 2], [30, -4001, -1, 0, 0, -2, 1, 11])], [], [(0, 0, 4001, [])], [(20, [2, 5], [50, 2, 0, 157, 11, 2, 7, 0, 3, 2, 0, 157, 1, 1, 1, 3, 2, 0, 11, 1, 1]), (20, [34, 5], [30, -4001, -1, 0, 0, -2, 0, 0]), (24, [0, 2], [])], [(34, 6, 0, 0)], [(19, 6, 0, 0), (11, 6, 0, 0)])
theorem oo_Mo_styleTokens_147 {kA : Nat → ClassId} : or_ok kA GG o_Mo_styleTokens_147 := by
  intro A ta ws vs hD hth hl hk hds hf
  have hl : vs.length = 34 := hl
  have hk : ∀ q ∈ ([(0, (2, 0, 0, [150])), (2, (2, 0, 0, [150])), (5, (0, 0, 1999, [])), (6, (0, 0, 4001, [])), (7, (0, 0, 255, [])), (8, (0, 32, 32, [])), (9, (0, 0, 255, [])), (10, (0, 10, 10, [])), (11, (0, 0, 4001, [])), (12, (0, 59, 59, [])), (19, (0, 0, 4001, [])), (20, (0, 123, 123, [])), (21, (0, 125, 125, [])), (22, (0, 40, 40, [])), (23, (0, 41, 41, [])), (24, (0, 43, 43, [])), (25, (0, 45, 45, [])), (26, (0, 42, 42, [])), (27, (0, 47, 47, [])), (28, (0, 60, 60, [])), (29, (0, 61, 61, [])), (30, (0, 62, 62, [])), (31, (0, 58, 58, [])), (32, (0, 44, 44, [])), (33, (0, 59, 59, []))] : List (Nat × tv_T)), tv_ok ta q.2 (n_v vs q.1) := hk
  obtain ⟨t0, hk⟩ := List.forall_mem_cons.mp hk
  have t0 : tv_ok ta (2, 0, 0, [150]) (n_v vs 0) := t0
  have r0 : ta (v_ad (n_v vs 0)) = some 150 := tv_rg t0
  obtain ⟨t2, hk⟩ := List.forall_mem_cons.mp hk
  have t2 : tv_ok ta (2, 0, 0, [150]) (n_v vs 2) := t2
  have r2 : ta (v_ad (n_v vs 2)) = some 150 := tv_rg t2
  obtain ⟨t5, hk⟩ := List.forall_mem_cons.mp hk
  have t5 : tv_ok ta (0, 0, 1999, []) (n_v vs 5) := t5
  have k5 : 0 ≤ v_iv (n_v vs 5) ∧ v_iv (n_v vs 5) ≤ 1999 := tv_rng t5
  obtain ⟨t6, hk⟩ := List.forall_mem_cons.mp hk
  have t6 : tv_ok ta (0, 0, 4001, []) (n_v vs 6) := t6
  have k6 : 0 ≤ v_iv (n_v vs 6) ∧ v_iv (n_v vs 6) ≤ 4001 := tv_rng t6
  obtain ⟨t7, hk⟩ := List.forall_mem_cons.mp hk
  have t7 : tv_ok ta (0, 0, 255, []) (n_v vs 7) := t7
  have k7 : 0 ≤ v_iv (n_v vs 7) ∧ v_iv (n_v vs 7) ≤ 255 := tv_rng t7
  obtain ⟨t8, hk⟩ := List.forall_mem_cons.mp hk
  have t8 : tv_ok ta (0, 32, 32, []) (n_v vs 8) := t8
  have k8 : 32 ≤ v_iv (n_v vs 8) ∧ v_iv (n_v vs 8) ≤ 32 := tv_rng t8
  obtain ⟨t9, hk⟩ := List.forall_mem_cons.mp hk
  have t9 : tv_ok ta (0, 0, 255, []) (n_v vs 9) := t9
  have k9 : 0 ≤ v_iv (n_v vs 9) ∧ v_iv (n_v vs 9) ≤ 255 := tv_rng t9
  obtain ⟨t10, hk⟩ := List.forall_mem_cons.mp hk
  have t10 : tv_ok ta (0, 10, 10, []) (n_v vs 10) := t10
  have k10 : 10 ≤ v_iv (n_v vs 10) ∧ v_iv (n_v vs 10) ≤ 10 := tv_rng t10
  obtain ⟨t11, hk⟩ := List.forall_mem_cons.mp hk
  have t11 : tv_ok ta (0, 0, 4001, []) (n_v vs 11) := t11
  have k11 : 0 ≤ v_iv (n_v vs 11) ∧ v_iv (n_v vs 11) ≤ 4001 := tv_rng t11
  obtain ⟨t12, hk⟩ := List.forall_mem_cons.mp hk
  have t12 : tv_ok ta (0, 59, 59, []) (n_v vs 12) := t12
  have k12 : 59 ≤ v_iv (n_v vs 12) ∧ v_iv (n_v vs 12) ≤ 59 := tv_rng t12
  obtain ⟨t19, hk⟩ := List.forall_mem_cons.mp hk
  have t19 : tv_ok ta (0, 0, 4001, []) (n_v vs 19) := t19
  have k19 : 0 ≤ v_iv (n_v vs 19) ∧ v_iv (n_v vs 19) ≤ 4001 := tv_rng t19
  obtain ⟨t20, hk⟩ := List.forall_mem_cons.mp hk
  have t20 : tv_ok ta (0, 123, 123, []) (n_v vs 20) := t20
  have k20 : 123 ≤ v_iv (n_v vs 20) ∧ v_iv (n_v vs 20) ≤ 123 := tv_rng t20
  obtain ⟨t21, hk⟩ := List.forall_mem_cons.mp hk
  have t21 : tv_ok ta (0, 125, 125, []) (n_v vs 21) := t21
  have k21 : 125 ≤ v_iv (n_v vs 21) ∧ v_iv (n_v vs 21) ≤ 125 := tv_rng t21
  obtain ⟨t22, hk⟩ := List.forall_mem_cons.mp hk
  have t22 : tv_ok ta (0, 40, 40, []) (n_v vs 22) := t22
  have k22 : 40 ≤ v_iv (n_v vs 22) ∧ v_iv (n_v vs 22) ≤ 40 := tv_rng t22
  obtain ⟨t23, hk⟩ := List.forall_mem_cons.mp hk
  have t23 : tv_ok ta (0, 41, 41, []) (n_v vs 23) := t23
  have k23 : 41 ≤ v_iv (n_v vs 23) ∧ v_iv (n_v vs 23) ≤ 41 := tv_rng t23
  obtain ⟨t24, hk⟩ := List.forall_mem_cons.mp hk
  have t24 : tv_ok ta (0, 43, 43, []) (n_v vs 24) := t24
  have k24 : 43 ≤ v_iv (n_v vs 24) ∧ v_iv (n_v vs 24) ≤ 43 := tv_rng t24
  obtain ⟨t25, hk⟩ := List.forall_mem_cons.mp hk
  have t25 : tv_ok ta (0, 45, 45, []) (n_v vs 25) := t25
  have k25 : 45 ≤ v_iv (n_v vs 25) ∧ v_iv (n_v vs 25) ≤ 45 := tv_rng t25
  obtain ⟨t26, hk⟩ := List.forall_mem_cons.mp hk
  have t26 : tv_ok ta (0, 42, 42, []) (n_v vs 26) := t26
  have k26 : 42 ≤ v_iv (n_v vs 26) ∧ v_iv (n_v vs 26) ≤ 42 := tv_rng t26
  obtain ⟨t27, hk⟩ := List.forall_mem_cons.mp hk
  have t27 : tv_ok ta (0, 47, 47, []) (n_v vs 27) := t27
  have k27 : 47 ≤ v_iv (n_v vs 27) ∧ v_iv (n_v vs 27) ≤ 47 := tv_rng t27
  obtain ⟨t28, hk⟩ := List.forall_mem_cons.mp hk
  have t28 : tv_ok ta (0, 60, 60, []) (n_v vs 28) := t28
  have k28 : 60 ≤ v_iv (n_v vs 28) ∧ v_iv (n_v vs 28) ≤ 60 := tv_rng t28
  obtain ⟨t29, hk⟩ := List.forall_mem_cons.mp hk
  have t29 : tv_ok ta (0, 61, 61, []) (n_v vs 29) := t29
  have k29 : 61 ≤ v_iv (n_v vs 29) ∧ v_iv (n_v vs 29) ≤ 61 := tv_rng t29
  obtain ⟨t30, hk⟩ := List.forall_mem_cons.mp hk
  have t30 : tv_ok ta (0, 62, 62, []) (n_v vs 30) := t30
  have k30 : 62 ≤ v_iv (n_v vs 30) ∧ v_iv (n_v vs 30) ≤ 62 := tv_rng t30
  obtain ⟨t31, hk⟩ := List.forall_mem_cons.mp hk
  have t31 : tv_ok ta (0, 58, 58, []) (n_v vs 31) := t31
  have k31 : 58 ≤ v_iv (n_v vs 31) ∧ v_iv (n_v vs 31) ≤ 58 := tv_rng t31
  obtain ⟨t32, hk⟩ := List.forall_mem_cons.mp hk
  have t32 : tv_ok ta (0, 44, 44, []) (n_v vs 32) := t32
  have k32 : 44 ≤ v_iv (n_v vs 32) ∧ v_iv (n_v vs 32) ≤ 44 := tv_rng t32
  obtain ⟨t33, hk⟩ := List.forall_mem_cons.mp hk
  have t33 : tv_ok ta (0, 59, 59, []) (n_v vs 33) := t33
  have k33 : 59 ≤ v_iv (n_v vs 33) ∧ v_iv (n_v vs 33) ≤ 59 := tv_rng t33
  have hds : ∀ q ∈ ([(19, 6, 0, 0), (11, 6, 0, 0)] : List of_T), n_iv vs q.2.1 + q.2.2.1 ≤ n_iv vs q.1 ∧ n_iv vs q.1 ≤ n_iv vs q.2.1 + q.2.2.2 := hds
  obtain ⟨d0, hds⟩ := List.forall_mem_cons.mp hds
  have d0 : v_iv (n_v vs 6) + 0 ≤ v_iv (n_v vs 19) ∧ v_iv (n_v vs 19) ≤ v_iv (n_v vs 6) + 0 := d0
  obtain ⟨d1, hds⟩ := List.forall_mem_cons.mp hds
  have d1 : v_iv (n_v vs 6) + 0 ≤ v_iv (n_v vs 11) ∧ v_iv (n_v vs 11) ≤ v_iv (n_v vs 6) + 0 := d1
  have hf : fc_ok [(7, [12, 33], [0]), (7, [12, 32], [1]), (7, [12, 31], [1]), (7, [12, 30], [1]), (7, [12, 29], [1]), (7, [12, 28], [1]), (7, [12, 27], [1]), (7, [12, 26], [1]), (7, [12, 25], [1]), (7, [12, 24], [1]), (7, [12, 23], [1]), (7, [12, 22], [1]), (7, [12, 21], [1]), (7, [12, 20], [1]), (20, [2, 5], [50, 2, 0, 157, 11, 2, 7, 0, 3, 2, 0, 157, 1, 1, 1, 3, 2, 0, 11, 1, 1]), (20, [19, 5], [30, -4001, -1, 0, 0, -2, 0, 0]), (24, [0, 2], []), (8, [12], [3]), (9, [5, 2], [11]), (20, [5, 2, 12], [50, 1, 1, 1010, 1001, 4, 11, 0, 6, 4, 2, 1, 0, 0, 1, 2, 1, 10, 1, 2, 1, 2, 9, 5, 3, 1, 1, 1, 0, 0, 256]), (20, [2, 5, 12], [50, 1, 0, 10, 4, 7, 0, 3, 2, 0, 10, 1, 1, 1, 2, 1, 2, 0, -1]), (20, [2], [50, 2, 0, 157, 11, 0, 3, 2, 0, 157, 2, 0, 11]), (20, [11, 2], [30, -4001, -1, 0, 0, -2, 1, 11]), (7, [9, 10], [1]), (20, [5, 2, 9], [50, 1, 1, 1010, 1001, 4, 11, 0, 6, 4, 2, 1, 0, 0, 1, 2, 1, 10, 1, 2, 1, 2, 9, 5, 3, 1, 1, 1, 0, 0, 256]), (20, [2, 5, 9], [50, 1, 0, 10, 4, 7, 0, 3, 2, 0, 10, 1, 1, 1, 2, 1, 2, 0, -1]), (7, [7, 8], [1]), (20, [5, 2, 7], [50, 1, 1, 1010, 1001, 4, 11, 0, 6, 4, 2, 1, 0, 0, 1, 2, 1, 10, 1, 2, 1, 2, 9, 5, 3, 1, 1, 1, 0, 0, 256]), (20, [2, 5, 7], [50, 1, 0, 10, 4, 7, 0, 3, 2, 0, 10, 1, 1, 1, 2, 1, 2, 0, -1]), (20, [2], [50, 2, 0, 157, 11, 0, 3, 2, 0, 157, 2, 0, 11]), (20, [6, 2], [30, -4001, -1, 0, 0, -2, 1, 11])] ta ws vs := hf
  obtain ⟨f0, hf⟩ := fc_un (by decide) hf
  have f0 : v_iv (n_v vs 12) = v_iv (n_v vs 33) := f0
  obtain ⟨f1, hf⟩ := fc_un (by decide) hf
  have f1 : v_iv (n_v vs 12) ≠ v_iv (n_v vs 32) := f1
  obtain ⟨f2, hf⟩ := fc_un (by decide) hf
  have f2 : v_iv (n_v vs 12) ≠ v_iv (n_v vs 31) := f2
  obtain ⟨f3, hf⟩ := fc_un (by decide) hf
  have f3 : v_iv (n_v vs 12) ≠ v_iv (n_v vs 30) := f3
  obtain ⟨f4, hf⟩ := fc_un (by decide) hf
  have f4 : v_iv (n_v vs 12) ≠ v_iv (n_v vs 29) := f4
  obtain ⟨f5, hf⟩ := fc_un (by decide) hf
  have f5 : v_iv (n_v vs 12) ≠ v_iv (n_v vs 28) := f5
  obtain ⟨f6, hf⟩ := fc_un (by decide) hf
  have f6 : v_iv (n_v vs 12) ≠ v_iv (n_v vs 27) := f6
  obtain ⟨f7, hf⟩ := fc_un (by decide) hf
  have f7 : v_iv (n_v vs 12) ≠ v_iv (n_v vs 26) := f7
  obtain ⟨f8, hf⟩ := fc_un (by decide) hf
  have f8 : v_iv (n_v vs 12) ≠ v_iv (n_v vs 25) := f8
  obtain ⟨f9, hf⟩ := fc_un (by decide) hf
  have f9 : v_iv (n_v vs 12) ≠ v_iv (n_v vs 24) := f9
  obtain ⟨f10, hf⟩ := fc_un (by decide) hf
  have f10 : v_iv (n_v vs 12) ≠ v_iv (n_v vs 23) := f10
  obtain ⟨f11, hf⟩ := fc_un (by decide) hf
  have f11 : v_iv (n_v vs 12) ≠ v_iv (n_v vs 22) := f11
  obtain ⟨f12, hf⟩ := fc_un (by decide) hf
  have f12 : v_iv (n_v vs 12) ≠ v_iv (n_v vs 21) := f12
  obtain ⟨f13, hf⟩ := fc_un (by decide) hf
  have f13 : v_iv (n_v vs 12) ≠ v_iv (n_v vs 20) := f13
  obtain ⟨f14, hf⟩ := fc_un (by decide) hf
  have f14 : (w_fi ws (n_v vs 2) 157 ≤ v_iv (n_v vs 5)) ∧ (w_fi ws (n_v vs 2) 11 = v_iv (n_v vs 5)) := f14
  obtain ⟨f15, hf⟩ := fc_un (by decide) hf
  have f15 : (-1) * v_iv (n_v vs 19) + ((-2) * v_iv (n_v vs 5) + 0) ≤ (-4001) := f15
  obtain ⟨f16, hf⟩ := fc_un (by decide) hf
  have f16 : n_v vs 0 = n_v vs 2 := f16
  obtain ⟨f17, hf⟩ := fc_un (by decide) hf
  have f17 : 0 ≤ v_iv (n_v vs 12) := f17
  obtain ⟨f18, hf⟩ := fc_un (by decide) hf
  have f18 : n_v vs 5 = w_fd ws (v_ad (n_v vs 2)) 11 := f18
  obtain ⟨f19, hf⟩ := fc_un (by decide) hf
  have f19 : ((v_iv (n_v vs 5) + 1) ≤ w_fi ws (n_v vs 2) 10) → (v_iv (n_v vs 12) = (w_ei ws (w_ar ws (n_v vs 2) 1) (v_iv (n_v vs 5)) % 256)) := f19
  obtain ⟨f20, hf⟩ := fc_un (by decide) hf
  have f20 : (w_fi ws (n_v vs 2) 10 ≤ v_iv (n_v vs 5)) → (v_iv (n_v vs 12) = (-1)) := f20
  obtain ⟨f21, hf⟩ := fc_un (by decide) hf
  have f21 : w_fi ws (n_v vs 2) 157 ≤ w_fi ws (n_v vs 2) 11 := f21
  obtain ⟨f22, hf⟩ := fc_un (by decide) hf
  have f22 : (-1) * v_iv (n_v vs 11) + ((-2) * w_fi ws (n_v vs 2) 11 + 0) ≤ (-4001) := f22
  obtain ⟨f23, hf⟩ := fc_un (by decide) hf
  have f23 : v_iv (n_v vs 9) ≠ v_iv (n_v vs 10) := f23
  obtain ⟨f24, hf⟩ := fc_un (by decide) hf
  have f24 : ((v_iv (n_v vs 5) + 1) ≤ w_fi ws (n_v vs 2) 10) → (v_iv (n_v vs 9) = (w_ei ws (w_ar ws (n_v vs 2) 1) (v_iv (n_v vs 5)) % 256)) := f24
  obtain ⟨f25, hf⟩ := fc_un (by decide) hf
  have f25 : (w_fi ws (n_v vs 2) 10 ≤ v_iv (n_v vs 5)) → (v_iv (n_v vs 9) = (-1)) := f25
  obtain ⟨f26, hf⟩ := fc_un (by decide) hf
  have f26 : v_iv (n_v vs 7) ≠ v_iv (n_v vs 8) := f26
  obtain ⟨f27, hf⟩ := fc_un (by decide) hf
  have f27 : ((v_iv (n_v vs 5) + 1) ≤ w_fi ws (n_v vs 2) 10) → (v_iv (n_v vs 7) = (w_ei ws (w_ar ws (n_v vs 2) 1) (v_iv (n_v vs 5)) % 256)) := f27
  obtain ⟨f28, hf⟩ := fc_un (by decide) hf
  have f28 : (w_fi ws (n_v vs 2) 10 ≤ v_iv (n_v vs 5)) → (v_iv (n_v vs 7) = (-1)) := f28
  obtain ⟨f29, hf⟩ := fc_un (by decide) hf
  have f29 : w_fi ws (n_v vs 2) 157 ≤ w_fi ws (n_v vs 2) 11 := f29
  obtain ⟨f30, hf⟩ := fc_un (by decide) hf
  have f30 : (-1) * v_iv (n_v vs 6) + ((-2) * w_fi ws (n_v vs 2) 11 + 0) ≤ (-4001) := f30
  have q2 : n_v vs 2 = n_v vs 0 := f16.symm
  rw [q2] at f14
  rw [q2] at f18
  rw [q2] at f19
  rw [q2] at f20
  rw [q2] at f21
  rw [q2] at f22
  rw [q2] at f24
  rw [q2] at f25
  rw [q2] at f27
  rw [q2] at f28
  rw [q2] at f29
  rw [q2] at f30
  have cr_0_1 : ta (w_ar ws (n_v vs 0) 1) = some 151 := tv_rg (th_fd hD hth r0 (g := GG_150) rfl (k := 1) (t := (2, 0, 0, [151])) rfl rfl)
  have g18 : v_iv (n_v vs 5) = w_fi ws (n_v vs 0) 11 := congrArg v_iv f18
  have hK_0_1 : ∀ j : Int, 0 ≤ j → j < 2000 → (-128) ≤ w_ei ws (w_ar ws (n_v vs 0) 1) j ∧ w_ei ws (w_ar ws (n_v vs 0) 1) j ≤ 127 := fun j h0 h1 => th_el hD hth cr_0_1 (kd := 1) (n := 2000) (m := 2000) (lo := (-128)) (hi := 127) (rs := []) (L := []) rfl (by decide) (j := j.toNat) (by omega)
  have kz_0_10 : 0 ≤ w_fi ws (n_v vs 0) 10 ∧ w_fi ws (n_v vs 0) 10 ≤ 2000 := tv_rng (th_fd hD hth r0 (g := GG_150) rfl (k := 10) (t := (0, 0, 2000, [])) rfl rfl)
  have kz_0_11 : 0 ≤ w_fi ws (n_v vs 0) 11 ∧ w_fi ws (n_v vs 0) 11 ≤ 2000 := tv_rng (th_fd hD hth r0 (g := GG_150) rfl (k := 11) (t := (0, 0, 2000, [])) rfl rfl)
  have kz_0_157 : 0 ≤ w_fi ws (n_v vs 0) 157 ∧ w_fi ws (n_v vs 0) 157 ≤ 2010 := tv_rng (th_fd hD hth r0 (g := GG_150) rfl (k := 157) (t := (0, 0, 2010, [])) rfl rfl)
  obtain ⟨x, ex, hx⟩ := iv_ex (ta := ta) (lo := 0) (hi := 4001) (z := 0 + (1 * v_iv (n_v vs 6) + 0)) (by omega) (by omega) (by decide) (by decide)
  have ex2 : v_iv (Value.int x) = 0 + (1 * v_iv (n_v vs 6) + 0) := ex
  have ex3 : 0 ≤ v_iv (Value.int x) ∧ v_iv (Value.int x) ≤ 4001 := tv_rng hx
  have e_0 : n_v (vs ++ [Value.int x]) 0 = n_v vs 0 := n_v_old (by rw [hl]; decide)
  have e_2 : n_v (vs ++ [Value.int x]) 2 = n_v vs 2 := n_v_old (by rw [hl]; decide)
  have e_5 : n_v (vs ++ [Value.int x]) 5 = n_v vs 5 := n_v_old (by rw [hl]; decide)
  have e_34 : n_v (vs ++ [Value.int x]) 34 = Value.int x := n_v_new hl
  have nf0 : fc_1 (20, [2, 5], [50, 2, 0, 157, 11, 2, 7, 0, 3, 2, 0, 157, 1, 1, 1, 3, 2, 0, 11, 1, 1]) ws (vs ++ [Value.int x]) := by
    refine ⟨fun n hn => ?_, ?_⟩
    · have hn : n ∈ [2, 5] := hn
      rw [List.length_append, hl]
      simp only [List.mem_cons, List.not_mem_nil, or_false] at hn
      show n < 34 + 1; omega
    · show (w_fi ws (n_v (vs ++ [Value.int x]) 2) 157 ≤ v_iv (n_v (vs ++ [Value.int x]) 5)) ∧ (w_fi ws (n_v (vs ++ [Value.int x]) 2) 11 = v_iv (n_v (vs ++ [Value.int x]) 5))
      rw [e_2]
      rw [e_5]
      rw [q2]
      first | omega | grind
  have nf1 : fc_1 (20, [34, 5], [30, -4001, -1, 0, 0, -2, 0, 0]) ws (vs ++ [Value.int x]) := by
    refine ⟨fun n hn => ?_, ?_⟩
    · have hn : n ∈ [34, 5] := hn
      rw [List.length_append, hl]
      simp only [List.mem_cons, List.not_mem_nil, or_false] at hn
      show n < 34 + 1; omega
    · show (-1) * v_iv (n_v (vs ++ [Value.int x]) 34) + ((-2) * v_iv (n_v (vs ++ [Value.int x]) 5) + 0) ≤ (-4001)
      rw [e_5]
      rw [e_34]
      omega
  have nf2 : fc_1 (24, [0, 2], []) ws (vs ++ [Value.int x]) := by
    refine ⟨fun n hn => ?_, ?_⟩
    · have hn : n ∈ [0, 2] := hn
      rw [List.length_append, hl]
      simp only [List.mem_cons, List.not_mem_nil, or_false] at hn
      show n < 34 + 1; omega
    · show n_v (vs ++ [Value.int x]) 0 = n_v (vs ++ [Value.int x]) 2
      first | rfl | simp only [e_0, e_2, q2]
  obtain ⟨x0, e0, _, _⟩ := tv_int t6 rfl
  have e1 : v_iv (n_v vs 6) = x0.toInt := by rw [e0]; rfl
  have ho : sy_ofs (vs ++ [Value.int x]) (34, 6, 0, 0) := by
    refine ⟨x, x0, by rw [List.getElem?_append_right (by rw [hl]; decide), hl]; rfl, ?_, ?_, ?_⟩
    · rw [List.getElem?_append_left (by rw [hl]; decide)]; exact n_v_some (by rw [hl]; decide) e0
    · show x0.toInt + 0 ≤ x.toInt; omega
    · show x.toInt ≤ x0.toInt + 0; omega
  exact ⟨fun q hq => (by cases hq), [Value.int x], ag_one hx, List.forall_mem_cons.mpr ⟨⟨by decide, nf0⟩, List.forall_mem_cons.mpr ⟨⟨by decide, nf1⟩, List.forall_mem_cons.mpr ⟨⟨by decide, nf2⟩, (fun _ h => (by cases h))⟩⟩⟩, List.forall_mem_cons.mpr ⟨ho, (fun _ h => (by cases h))⟩⟩
def o_Mo_styleTokens_148 : or_T := (339, 36, [(0, (2, 0, 0, [150])), (2, (2, 0, 0, [150])), (5, (0, 0, 1999, [])), (6, (0, 0, 4001, [])), (7, (0, 0, 255, [])), (8, (0, 32, 32, [])), (9, (0, 0, 255, [])), (10, (0, 10, 10, [])), (11, (0, 0, 4001, [])), (12, (0, 59, 59, [])), (19, (0, 0, 4001, [])), (20, (0, 123, 123, [])), (21, (0, 125, 125, [])), (22, (0, 40, 40, [])), (23, (0, 41, 41, [])), (24, (0, 43, 43, [])), (25, (0, 45, 45, [])), (26, (0, 42, 42, [])), (27, (0, 47, 47, [])), (28, (0, 60, 60, [])), (29, (0, 61, 61, [])), (30, (0, 62, 62, [])), (31, (0, 58, 58, [])), (32, (0, 44, 44, [])), (33, (0, 59, 59, [])), (34, (0, 0, 4001, []))], [(20, [2, 5], [50, 2, 0, 157, 11, 2, 7, 0, 3, 2, 0, 157, 1, 1, 1, 3, 2, 0, 11, 1, 1]), (20, [34, 5], [30, -4001, -1, 0, 0, -2, 0, 0]), (24, [0, 2], []), (7, [12, 33], [0]), (7, [12, 32], [1]), (7, [12, 31], [1]), (7, [12, 30], [1]), (7, [12, 29], [1]), (7, [12, 28], [1]), (7, [12, 27], [1]), (7, [12, 26], [1]), (7, [12, 25], [1]), (7, [12, 24], [1]), (7, [12, 23], [1]), (7, [12, 22], [1]), (7, [12, 21], [1]), (7, [12, 20], [1]), (20, [2, 5], [50, 2, 0, 157, 11, 2, 7, 0, 3, 2, 0, 157, 1, 1, 1, 3, 2, 0, 11, 1, 1]), (20, [19, 5], [30, -4001, -1, 0, 0, -2, 0, 0]), (8, [12], [3]), (9, [5, 2], [11]), (20, [5, 2, 12], [50, 1, 1, 1010, 1001, 4, 11, 0, 6, 4, 2, 1, 0, 0, 1, 2, 1, 10, 1, 2, 1, 2, 9, 5, 3, 1, 1, 1, 0, 0, 256]), (20, [2, 5, 12], [50, 1, 0, 10, 4, 7, 0, 3, 2, 0, 10, 1, 1, 1, 2, 1, 2, 0, -1]), (20, [2], [50, 2, 0, 157, 11, 0, 3, 2, 0, 157, 2, 0, 11]), (20, [11, 2], [30, -4001, -1, 0, 0, -2, 1, 11]), (7, [9, 10], [1]), (20, [5, 2, 9], [50, 1, 1, 1010, 1001, 4, 11, 0, 6, 4, 2, 1, 0, 0, 1, 2, 1, 10, 1, 2, 1, 2, 9, 5, 3, 1, 1, 1, 0, 0, 256]), (20, [2, 5, 9], [50, 1, 0, 10, 4, 7, 0, 3, 2, 0, 10, 1, 1, 1, 2, 1, 2, 0, -1]), (7, [7, 8], [1]), (20, [5, 2, 7], [50, 1, 1, 1010, 1001, 4, 11, 0, 6, 4, 2, 1, 0, 0, 1, 2, 1, 10, 1, 2, 1, 2, 9, 5, 3, 1, 1, 1, 0, 0, 256]), (20, [2, 5, 7], [50, 1, 0, 10, 4, 7, 0, 3, 2, 0, 10, 1, 1, 1, 2, 1, 2, 0, -1]), (20, [2], [50, 2, 0, 157, 11, 0, 3, 2, 0, 157, 2, 0, 11]), (20, [6, 2], [30, -4001, -1, 0, 0, -2, 1, 11])], [], [(0, 0, 4001, [])], [(20, [2, 5], [50, 2, 0, 157, 11, 2, 7, 0, 3, 2, 0, 157, 1, 1, 1, 3, 2, 0, 11, 1, 1]), (20, [36, 5], [30, -4001, -1, 0, 0, -2, 0, 0]), (24, [0, 2], [])], [(36, 6, 0, 0)], [(34, 6, 0, 0), (19, 6, 0, 0), (11, 6, 0, 0)])
theorem oo_Mo_styleTokens_148 {kA : Nat → ClassId} : or_ok kA GG o_Mo_styleTokens_148 := by
  intro A ta ws vs hD hth hl hk hds hf
  have hl : vs.length = 36 := hl
  have hk : ∀ q ∈ ([(0, (2, 0, 0, [150])), (2, (2, 0, 0, [150])), (5, (0, 0, 1999, [])), (6, (0, 0, 4001, [])), (7, (0, 0, 255, [])), (8, (0, 32, 32, [])), (9, (0, 0, 255, [])), (10, (0, 10, 10, [])), (11, (0, 0, 4001, [])), (12, (0, 59, 59, [])), (19, (0, 0, 4001, [])), (20, (0, 123, 123, [])), (21, (0, 125, 125, [])), (22, (0, 40, 40, [])), (23, (0, 41, 41, [])), (24, (0, 43, 43, [])), (25, (0, 45, 45, [])), (26, (0, 42, 42, [])), (27, (0, 47, 47, [])), (28, (0, 60, 60, [])), (29, (0, 61, 61, [])), (30, (0, 62, 62, [])), (31, (0, 58, 58, [])), (32, (0, 44, 44, [])), (33, (0, 59, 59, [])), (34, (0, 0, 4001, []))] : List (Nat × tv_T)), tv_ok ta q.2 (n_v vs q.1) := hk
  obtain ⟨t0, hk⟩ := List.forall_mem_cons.mp hk
  have t0 : tv_ok ta (2, 0, 0, [150]) (n_v vs 0) := t0
  have r0 : ta (v_ad (n_v vs 0)) = some 150 := tv_rg t0
  obtain ⟨t2, hk⟩ := List.forall_mem_cons.mp hk
  have t2 : tv_ok ta (2, 0, 0, [150]) (n_v vs 2) := t2
  have r2 : ta (v_ad (n_v vs 2)) = some 150 := tv_rg t2
  obtain ⟨t5, hk⟩ := List.forall_mem_cons.mp hk
  have t5 : tv_ok ta (0, 0, 1999, []) (n_v vs 5) := t5
  have k5 : 0 ≤ v_iv (n_v vs 5) ∧ v_iv (n_v vs 5) ≤ 1999 := tv_rng t5
  obtain ⟨t6, hk⟩ := List.forall_mem_cons.mp hk
  have t6 : tv_ok ta (0, 0, 4001, []) (n_v vs 6) := t6
  have k6 : 0 ≤ v_iv (n_v vs 6) ∧ v_iv (n_v vs 6) ≤ 4001 := tv_rng t6
  obtain ⟨t7, hk⟩ := List.forall_mem_cons.mp hk
  have t7 : tv_ok ta (0, 0, 255, []) (n_v vs 7) := t7
  have k7 : 0 ≤ v_iv (n_v vs 7) ∧ v_iv (n_v vs 7) ≤ 255 := tv_rng t7
  obtain ⟨t8, hk⟩ := List.forall_mem_cons.mp hk
  have t8 : tv_ok ta (0, 32, 32, []) (n_v vs 8) := t8
  have k8 : 32 ≤ v_iv (n_v vs 8) ∧ v_iv (n_v vs 8) ≤ 32 := tv_rng t8
  obtain ⟨t9, hk⟩ := List.forall_mem_cons.mp hk
  have t9 : tv_ok ta (0, 0, 255, []) (n_v vs 9) := t9
  have k9 : 0 ≤ v_iv (n_v vs 9) ∧ v_iv (n_v vs 9) ≤ 255 := tv_rng t9
  obtain ⟨t10, hk⟩ := List.forall_mem_cons.mp hk
  have t10 : tv_ok ta (0, 10, 10, []) (n_v vs 10) := t10
  have k10 : 10 ≤ v_iv (n_v vs 10) ∧ v_iv (n_v vs 10) ≤ 10 := tv_rng t10
  obtain ⟨t11, hk⟩ := List.forall_mem_cons.mp hk
  have t11 : tv_ok ta (0, 0, 4001, []) (n_v vs 11) := t11
  have k11 : 0 ≤ v_iv (n_v vs 11) ∧ v_iv (n_v vs 11) ≤ 4001 := tv_rng t11
  obtain ⟨t12, hk⟩ := List.forall_mem_cons.mp hk
  have t12 : tv_ok ta (0, 59, 59, []) (n_v vs 12) := t12
  have k12 : 59 ≤ v_iv (n_v vs 12) ∧ v_iv (n_v vs 12) ≤ 59 := tv_rng t12
  obtain ⟨t19, hk⟩ := List.forall_mem_cons.mp hk
  have t19 : tv_ok ta (0, 0, 4001, []) (n_v vs 19) := t19
  have k19 : 0 ≤ v_iv (n_v vs 19) ∧ v_iv (n_v vs 19) ≤ 4001 := tv_rng t19
  obtain ⟨t20, hk⟩ := List.forall_mem_cons.mp hk
  have t20 : tv_ok ta (0, 123, 123, []) (n_v vs 20) := t20
  have k20 : 123 ≤ v_iv (n_v vs 20) ∧ v_iv (n_v vs 20) ≤ 123 := tv_rng t20
  obtain ⟨t21, hk⟩ := List.forall_mem_cons.mp hk
  have t21 : tv_ok ta (0, 125, 125, []) (n_v vs 21) := t21
  have k21 : 125 ≤ v_iv (n_v vs 21) ∧ v_iv (n_v vs 21) ≤ 125 := tv_rng t21
  obtain ⟨t22, hk⟩ := List.forall_mem_cons.mp hk
  have t22 : tv_ok ta (0, 40, 40, []) (n_v vs 22) := t22
  have k22 : 40 ≤ v_iv (n_v vs 22) ∧ v_iv (n_v vs 22) ≤ 40 := tv_rng t22
  obtain ⟨t23, hk⟩ := List.forall_mem_cons.mp hk
  have t23 : tv_ok ta (0, 41, 41, []) (n_v vs 23) := t23
  have k23 : 41 ≤ v_iv (n_v vs 23) ∧ v_iv (n_v vs 23) ≤ 41 := tv_rng t23
  obtain ⟨t24, hk⟩ := List.forall_mem_cons.mp hk
  have t24 : tv_ok ta (0, 43, 43, []) (n_v vs 24) := t24
  have k24 : 43 ≤ v_iv (n_v vs 24) ∧ v_iv (n_v vs 24) ≤ 43 := tv_rng t24
  obtain ⟨t25, hk⟩ := List.forall_mem_cons.mp hk
  have t25 : tv_ok ta (0, 45, 45, []) (n_v vs 25) := t25
  have k25 : 45 ≤ v_iv (n_v vs 25) ∧ v_iv (n_v vs 25) ≤ 45 := tv_rng t25
  obtain ⟨t26, hk⟩ := List.forall_mem_cons.mp hk
  have t26 : tv_ok ta (0, 42, 42, []) (n_v vs 26) := t26
  have k26 : 42 ≤ v_iv (n_v vs 26) ∧ v_iv (n_v vs 26) ≤ 42 := tv_rng t26
  obtain ⟨t27, hk⟩ := List.forall_mem_cons.mp hk
  have t27 : tv_ok ta (0, 47, 47, []) (n_v vs 27) := t27
  have k27 : 47 ≤ v_iv (n_v vs 27) ∧ v_iv (n_v vs 27) ≤ 47 := tv_rng t27
  obtain ⟨t28, hk⟩ := List.forall_mem_cons.mp hk
  have t28 : tv_ok ta (0, 60, 60, []) (n_v vs 28) := t28
  have k28 : 60 ≤ v_iv (n_v vs 28) ∧ v_iv (n_v vs 28) ≤ 60 := tv_rng t28
  obtain ⟨t29, hk⟩ := List.forall_mem_cons.mp hk
  have t29 : tv_ok ta (0, 61, 61, []) (n_v vs 29) := t29
  have k29 : 61 ≤ v_iv (n_v vs 29) ∧ v_iv (n_v vs 29) ≤ 61 := tv_rng t29
  obtain ⟨t30, hk⟩ := List.forall_mem_cons.mp hk
  have t30 : tv_ok ta (0, 62, 62, []) (n_v vs 30) := t30
  have k30 : 62 ≤ v_iv (n_v vs 30) ∧ v_iv (n_v vs 30) ≤ 62 := tv_rng t30
  obtain ⟨t31, hk⟩ := List.forall_mem_cons.mp hk
  have t31 : tv_ok ta (0, 58, 58, []) (n_v vs 31) := t31
  have k31 : 58 ≤ v_iv (n_v vs 31) ∧ v_iv (n_v vs 31) ≤ 58 := tv_rng t31
  obtain ⟨t32, hk⟩ := List.forall_mem_cons.mp hk
  have t32 : tv_ok ta (0, 44, 44, []) (n_v vs 32) := t32
  have k32 : 44 ≤ v_iv (n_v vs 32) ∧ v_iv (n_v vs 32) ≤ 44 := tv_rng t32
  obtain ⟨t33, hk⟩ := List.forall_mem_cons.mp hk
  have t33 : tv_ok ta (0, 59, 59, []) (n_v vs 33) := t33
  have k33 : 59 ≤ v_iv (n_v vs 33) ∧ v_iv (n_v vs 33) ≤ 59 := tv_rng t33
  obtain ⟨t34, hk⟩ := List.forall_mem_cons.mp hk
  have t34 : tv_ok ta (0, 0, 4001, []) (n_v vs 34) := t34
  have k34 : 0 ≤ v_iv (n_v vs 34) ∧ v_iv (n_v vs 34) ≤ 4001 := tv_rng t34
  have hds : ∀ q ∈ ([(34, 6, 0, 0), (19, 6, 0, 0), (11, 6, 0, 0)] : List of_T), n_iv vs q.2.1 + q.2.2.1 ≤ n_iv vs q.1 ∧ n_iv vs q.1 ≤ n_iv vs q.2.1 + q.2.2.2 := hds
  obtain ⟨d0, hds⟩ := List.forall_mem_cons.mp hds
  have d0 : v_iv (n_v vs 6) + 0 ≤ v_iv (n_v vs 34) ∧ v_iv (n_v vs 34) ≤ v_iv (n_v vs 6) + 0 := d0
  obtain ⟨d1, hds⟩ := List.forall_mem_cons.mp hds
  have d1 : v_iv (n_v vs 6) + 0 ≤ v_iv (n_v vs 19) ∧ v_iv (n_v vs 19) ≤ v_iv (n_v vs 6) + 0 := d1
  obtain ⟨d2, hds⟩ := List.forall_mem_cons.mp hds
  have d2 : v_iv (n_v vs 6) + 0 ≤ v_iv (n_v vs 11) ∧ v_iv (n_v vs 11) ≤ v_iv (n_v vs 6) + 0 := d2
  have hf : fc_ok [(20, [2, 5], [50, 2, 0, 157, 11, 2, 7, 0, 3, 2, 0, 157, 1, 1, 1, 3, 2, 0, 11, 1, 1]), (20, [34, 5], [30, -4001, -1, 0, 0, -2, 0, 0]), (24, [0, 2], []), (7, [12, 33], [0]), (7, [12, 32], [1]), (7, [12, 31], [1]), (7, [12, 30], [1]), (7, [12, 29], [1]), (7, [12, 28], [1]), (7, [12, 27], [1]), (7, [12, 26], [1]), (7, [12, 25], [1]), (7, [12, 24], [1]), (7, [12, 23], [1]), (7, [12, 22], [1]), (7, [12, 21], [1]), (7, [12, 20], [1]), (20, [2, 5], [50, 2, 0, 157, 11, 2, 7, 0, 3, 2, 0, 157, 1, 1, 1, 3, 2, 0, 11, 1, 1]), (20, [19, 5], [30, -4001, -1, 0, 0, -2, 0, 0]), (8, [12], [3]), (9, [5, 2], [11]), (20, [5, 2, 12], [50, 1, 1, 1010, 1001, 4, 11, 0, 6, 4, 2, 1, 0, 0, 1, 2, 1, 10, 1, 2, 1, 2, 9, 5, 3, 1, 1, 1, 0, 0, 256]), (20, [2, 5, 12], [50, 1, 0, 10, 4, 7, 0, 3, 2, 0, 10, 1, 1, 1, 2, 1, 2, 0, -1]), (20, [2], [50, 2, 0, 157, 11, 0, 3, 2, 0, 157, 2, 0, 11]), (20, [11, 2], [30, -4001, -1, 0, 0, -2, 1, 11]), (7, [9, 10], [1]), (20, [5, 2, 9], [50, 1, 1, 1010, 1001, 4, 11, 0, 6, 4, 2, 1, 0, 0, 1, 2, 1, 10, 1, 2, 1, 2, 9, 5, 3, 1, 1, 1, 0, 0, 256]), (20, [2, 5, 9], [50, 1, 0, 10, 4, 7, 0, 3, 2, 0, 10, 1, 1, 1, 2, 1, 2, 0, -1]), (7, [7, 8], [1]), (20, [5, 2, 7], [50, 1, 1, 1010, 1001, 4, 11, 0, 6, 4, 2, 1, 0, 0, 1, 2, 1, 10, 1, 2, 1, 2, 9, 5, 3, 1, 1, 1, 0, 0, 256]), (20, [2, 5, 7], [50, 1, 0, 10, 4, 7, 0, 3, 2, 0, 10, 1, 1, 1, 2, 1, 2, 0, -1]), (20, [2], [50, 2, 0, 157, 11, 0, 3, 2, 0, 157, 2, 0, 11]), (20, [6, 2], [30, -4001, -1, 0, 0, -2, 1, 11])] ta ws vs := hf
  obtain ⟨f0, hf⟩ := fc_un (by decide) hf
  have f0 : (w_fi ws (n_v vs 2) 157 ≤ v_iv (n_v vs 5)) ∧ (w_fi ws (n_v vs 2) 11 = v_iv (n_v vs 5)) := f0
  obtain ⟨f1, hf⟩ := fc_un (by decide) hf
  have f1 : (-1) * v_iv (n_v vs 34) + ((-2) * v_iv (n_v vs 5) + 0) ≤ (-4001) := f1
  obtain ⟨f2, hf⟩ := fc_un (by decide) hf
  have f2 : n_v vs 0 = n_v vs 2 := f2
  obtain ⟨f3, hf⟩ := fc_un (by decide) hf
  have f3 : v_iv (n_v vs 12) = v_iv (n_v vs 33) := f3
  obtain ⟨f4, hf⟩ := fc_un (by decide) hf
  have f4 : v_iv (n_v vs 12) ≠ v_iv (n_v vs 32) := f4
  obtain ⟨f5, hf⟩ := fc_un (by decide) hf
  have f5 : v_iv (n_v vs 12) ≠ v_iv (n_v vs 31) := f5
  obtain ⟨f6, hf⟩ := fc_un (by decide) hf
  have f6 : v_iv (n_v vs 12) ≠ v_iv (n_v vs 30) := f6
  obtain ⟨f7, hf⟩ := fc_un (by decide) hf
  have f7 : v_iv (n_v vs 12) ≠ v_iv (n_v vs 29) := f7
  obtain ⟨f8, hf⟩ := fc_un (by decide) hf
  have f8 : v_iv (n_v vs 12) ≠ v_iv (n_v vs 28) := f8
  obtain ⟨f9, hf⟩ := fc_un (by decide) hf
  have f9 : v_iv (n_v vs 12) ≠ v_iv (n_v vs 27) := f9
  obtain ⟨f10, hf⟩ := fc_un (by decide) hf
  have f10 : v_iv (n_v vs 12) ≠ v_iv (n_v vs 26) := f10
  obtain ⟨f11, hf⟩ := fc_un (by decide) hf
  have f11 : v_iv (n_v vs 12) ≠ v_iv (n_v vs 25) := f11
  obtain ⟨f12, hf⟩ := fc_un (by decide) hf
  have f12 : v_iv (n_v vs 12) ≠ v_iv (n_v vs 24) := f12
  obtain ⟨f13, hf⟩ := fc_un (by decide) hf
  have f13 : v_iv (n_v vs 12) ≠ v_iv (n_v vs 23) := f13
  obtain ⟨f14, hf⟩ := fc_un (by decide) hf
  have f14 : v_iv (n_v vs 12) ≠ v_iv (n_v vs 22) := f14
  obtain ⟨f15, hf⟩ := fc_un (by decide) hf
  have f15 : v_iv (n_v vs 12) ≠ v_iv (n_v vs 21) := f15
  obtain ⟨f16, hf⟩ := fc_un (by decide) hf
  have f16 : v_iv (n_v vs 12) ≠ v_iv (n_v vs 20) := f16
  obtain ⟨f17, hf⟩ := fc_un (by decide) hf
  have f17 : (w_fi ws (n_v vs 2) 157 ≤ v_iv (n_v vs 5)) ∧ (w_fi ws (n_v vs 2) 11 = v_iv (n_v vs 5)) := f17
  obtain ⟨f18, hf⟩ := fc_un (by decide) hf
  have f18 : (-1) * v_iv (n_v vs 19) + ((-2) * v_iv (n_v vs 5) + 0) ≤ (-4001) := f18
  obtain ⟨f19, hf⟩ := fc_un (by decide) hf
  have f19 : 0 ≤ v_iv (n_v vs 12) := f19
  obtain ⟨f20, hf⟩ := fc_un (by decide) hf
  have f20 : n_v vs 5 = w_fd ws (v_ad (n_v vs 2)) 11 := f20
  obtain ⟨f21, hf⟩ := fc_un (by decide) hf
  have f21 : ((v_iv (n_v vs 5) + 1) ≤ w_fi ws (n_v vs 2) 10) → (v_iv (n_v vs 12) = (w_ei ws (w_ar ws (n_v vs 2) 1) (v_iv (n_v vs 5)) % 256)) := f21
  obtain ⟨f22, hf⟩ := fc_un (by decide) hf
  have f22 : (w_fi ws (n_v vs 2) 10 ≤ v_iv (n_v vs 5)) → (v_iv (n_v vs 12) = (-1)) := f22
  obtain ⟨f23, hf⟩ := fc_un (by decide) hf
  have f23 : w_fi ws (n_v vs 2) 157 ≤ w_fi ws (n_v vs 2) 11 := f23
  obtain ⟨f24, hf⟩ := fc_un (by decide) hf
  have f24 : (-1) * v_iv (n_v vs 11) + ((-2) * w_fi ws (n_v vs 2) 11 + 0) ≤ (-4001) := f24
  obtain ⟨f25, hf⟩ := fc_un (by decide) hf
  have f25 : v_iv (n_v vs 9) ≠ v_iv (n_v vs 10) := f25
  obtain ⟨f26, hf⟩ := fc_un (by decide) hf
  have f26 : ((v_iv (n_v vs 5) + 1) ≤ w_fi ws (n_v vs 2) 10) → (v_iv (n_v vs 9) = (w_ei ws (w_ar ws (n_v vs 2) 1) (v_iv (n_v vs 5)) % 256)) := f26
  obtain ⟨f27, hf⟩ := fc_un (by decide) hf
  have f27 : (w_fi ws (n_v vs 2) 10 ≤ v_iv (n_v vs 5)) → (v_iv (n_v vs 9) = (-1)) := f27
  obtain ⟨f28, hf⟩ := fc_un (by decide) hf
  have f28 : v_iv (n_v vs 7) ≠ v_iv (n_v vs 8) := f28
  obtain ⟨f29, hf⟩ := fc_un (by decide) hf
  have f29 : ((v_iv (n_v vs 5) + 1) ≤ w_fi ws (n_v vs 2) 10) → (v_iv (n_v vs 7) = (w_ei ws (w_ar ws (n_v vs 2) 1) (v_iv (n_v vs 5)) % 256)) := f29
  obtain ⟨f30, hf⟩ := fc_un (by decide) hf
  have f30 : (w_fi ws (n_v vs 2) 10 ≤ v_iv (n_v vs 5)) → (v_iv (n_v vs 7) = (-1)) := f30
  obtain ⟨f31, hf⟩ := fc_un (by decide) hf
  have f31 : w_fi ws (n_v vs 2) 157 ≤ w_fi ws (n_v vs 2) 11 := f31
  obtain ⟨f32, hf⟩ := fc_un (by decide) hf
  have f32 : (-1) * v_iv (n_v vs 6) + ((-2) * w_fi ws (n_v vs 2) 11 + 0) ≤ (-4001) := f32
  have q2 : n_v vs 2 = n_v vs 0 := f2.symm
  rw [q2] at f0
  rw [q2] at f17
  rw [q2] at f20
  rw [q2] at f21
  rw [q2] at f22
  rw [q2] at f23
  rw [q2] at f24
  rw [q2] at f26
  rw [q2] at f27
  rw [q2] at f29
  rw [q2] at f30
  rw [q2] at f31
  rw [q2] at f32
  have cr_0_1 : ta (w_ar ws (n_v vs 0) 1) = some 151 := tv_rg (th_fd hD hth r0 (g := GG_150) rfl (k := 1) (t := (2, 0, 0, [151])) rfl rfl)
  have g20 : v_iv (n_v vs 5) = w_fi ws (n_v vs 0) 11 := congrArg v_iv f20
  have hK_0_1 : ∀ j : Int, 0 ≤ j → j < 2000 → (-128) ≤ w_ei ws (w_ar ws (n_v vs 0) 1) j ∧ w_ei ws (w_ar ws (n_v vs 0) 1) j ≤ 127 := fun j h0 h1 => th_el hD hth cr_0_1 (kd := 1) (n := 2000) (m := 2000) (lo := (-128)) (hi := 127) (rs := []) (L := []) rfl (by decide) (j := j.toNat) (by omega)
  have kz_0_10 : 0 ≤ w_fi ws (n_v vs 0) 10 ∧ w_fi ws (n_v vs 0) 10 ≤ 2000 := tv_rng (th_fd hD hth r0 (g := GG_150) rfl (k := 10) (t := (0, 0, 2000, [])) rfl rfl)
  have kz_0_11 : 0 ≤ w_fi ws (n_v vs 0) 11 ∧ w_fi ws (n_v vs 0) 11 ≤ 2000 := tv_rng (th_fd hD hth r0 (g := GG_150) rfl (k := 11) (t := (0, 0, 2000, [])) rfl rfl)
  have kz_0_157 : 0 ≤ w_fi ws (n_v vs 0) 157 ∧ w_fi ws (n_v vs 0) 157 ≤ 2010 := tv_rng (th_fd hD hth r0 (g := GG_150) rfl (k := 157) (t := (0, 0, 2010, [])) rfl rfl)
  obtain ⟨x, ex, hx⟩ := iv_ex (ta := ta) (lo := 0) (hi := 4001) (z := 0 + (1 * v_iv (n_v vs 6) + 0)) (by omega) (by omega) (by decide) (by decide)
  have ex2 : v_iv (Value.int x) = 0 + (1 * v_iv (n_v vs 6) + 0) := ex
  have ex3 : 0 ≤ v_iv (Value.int x) ∧ v_iv (Value.int x) ≤ 4001 := tv_rng hx
  have e_0 : n_v (vs ++ [Value.int x]) 0 = n_v vs 0 := n_v_old (by rw [hl]; decide)
  have e_2 : n_v (vs ++ [Value.int x]) 2 = n_v vs 2 := n_v_old (by rw [hl]; decide)
  have e_5 : n_v (vs ++ [Value.int x]) 5 = n_v vs 5 := n_v_old (by rw [hl]; decide)
  have e_36 : n_v (vs ++ [Value.int x]) 36 = Value.int x := n_v_new hl
  have nf0 : fc_1 (20, [2, 5], [50, 2, 0, 157, 11, 2, 7, 0, 3, 2, 0, 157, 1, 1, 1, 3, 2, 0, 11, 1, 1]) ws (vs ++ [Value.int x]) := by
    refine ⟨fun n hn => ?_, ?_⟩
    · have hn : n ∈ [2, 5] := hn
      rw [List.length_append, hl]
      simp only [List.mem_cons, List.not_mem_nil, or_false] at hn
      show n < 36 + 1; omega
    · show (w_fi ws (n_v (vs ++ [Value.int x]) 2) 157 ≤ v_iv (n_v (vs ++ [Value.int x]) 5)) ∧ (w_fi ws (n_v (vs ++ [Value.int x]) 2) 11 = v_iv (n_v (vs ++ [Value.int x]) 5))
      rw [e_2]
      rw [e_5]
      rw [q2]
      first | omega | grind
  have nf1 : fc_1 (20, [36, 5], [30, -4001, -1, 0, 0, -2, 0, 0]) ws (vs ++ [Value.int x]) := by
    refine ⟨fun n hn => ?_, ?_⟩
    · have hn : n ∈ [36, 5] := hn
      rw [List.length_append, hl]
      simp only [List.mem_cons, List.not_mem_nil, or_false] at hn
      show n < 36 + 1; omega
    · show (-1) * v_iv (n_v (vs ++ [Value.int x]) 36) + ((-2) * v_iv (n_v (vs ++ [Value.int x]) 5) + 0) ≤ (-4001)
      rw [e_5]
      rw [e_36]
      omega
  have nf2 : fc_1 (24, [0, 2], []) ws (vs ++ [Value.int x]) := by
    refine ⟨fun n hn => ?_, ?_⟩
    · have hn : n ∈ [0, 2] := hn
      rw [List.length_append, hl]
      simp only [List.mem_cons, List.not_mem_nil, or_false] at hn
      show n < 36 + 1; omega
    · show n_v (vs ++ [Value.int x]) 0 = n_v (vs ++ [Value.int x]) 2
      first | rfl | simp only [e_0, e_2, q2]
  obtain ⟨x0, e0, _, _⟩ := tv_int t6 rfl
  have e1 : v_iv (n_v vs 6) = x0.toInt := by rw [e0]; rfl
  have ho : sy_ofs (vs ++ [Value.int x]) (36, 6, 0, 0) := by
    refine ⟨x, x0, by rw [List.getElem?_append_right (by rw [hl]; decide), hl]; rfl, ?_, ?_, ?_⟩
    · rw [List.getElem?_append_left (by rw [hl]; decide)]; exact n_v_some (by rw [hl]; decide) e0
    · show x0.toInt + 0 ≤ x.toInt; omega
    · show x.toInt ≤ x0.toInt + 0; omega
  exact ⟨fun q hq => (by cases hq), [Value.int x], ag_one hx, List.forall_mem_cons.mpr ⟨⟨by decide, nf0⟩, List.forall_mem_cons.mpr ⟨⟨by decide, nf1⟩, List.forall_mem_cons.mpr ⟨⟨by decide, nf2⟩, (fun _ h => (by cases h))⟩⟩⟩, List.forall_mem_cons.mpr ⟨ho, (fun _ h => (by cases h))⟩⟩
def o_Mo_styleTokens_149 : or_T := (166, 20, [(0, (2, 0, 0, [150])), (2, (2, 0, 0, [150])), (5, (0, 0, 1999, [])), (6, (0, 0, 4001, [])), (7, (0, 0, 255, [])), (8, (0, 32, 32, [])), (9, (0, 0, 255, [])), (10, (0, 10, 10, [])), (11, (0, 0, 4001, [])), (12, (0, 48, 57, []))], [(8, [12], [3]), (9, [5, 2], [11]), (20, [5, 2, 12], [50, 1, 1, 1010, 1001, 4, 11, 0, 6, 4, 2, 1, 0, 0, 1, 2, 1, 10, 1, 2, 1, 2, 9, 5, 3, 1, 1, 1, 0, 0, 256]), (20, [2, 5, 12], [50, 1, 0, 10, 4, 7, 0, 3, 2, 0, 10, 1, 1, 1, 2, 1, 2, 0, -1]), (20, [2], [50, 2, 0, 157, 11, 0, 3, 2, 0, 157, 2, 0, 11]), (20, [11, 2], [30, -4001, -1, 0, 0, -2, 1, 11]), (24, [0, 2], []), (7, [9, 10], [1]), (20, [5, 2, 9], [50, 1, 1, 1010, 1001, 4, 11, 0, 6, 4, 2, 1, 0, 0, 1, 2, 1, 10, 1, 2, 1, 2, 9, 5, 3, 1, 1, 1, 0, 0, 256]), (20, [2, 5, 9], [50, 1, 0, 10, 4, 7, 0, 3, 2, 0, 10, 1, 1, 1, 2, 1, 2, 0, -1]), (7, [7, 8], [1]), (20, [5, 2, 7], [50, 1, 1, 1010, 1001, 4, 11, 0, 6, 4, 2, 1, 0, 0, 1, 2, 1, 10, 1, 2, 1, 2, 9, 5, 3, 1, 1, 1, 0, 0, 256]), (20, [2, 5, 7], [50, 1, 0, 10, 4, 7, 0, 3, 2, 0, 10, 1, 1, 1, 2, 1, 2, 0, -1]), (20, [2], [50, 2, 0, 157, 11, 0, 3, 2, 0, 157, 2, 0, 11]), (20, [6, 2], [30, -4001, -1, 0, 0, -2, 1, 11])], [], [(0, 0, 4001, [])], [(20, [2, 5], [50, 3, 1, 157, 11, 10, 1, 2, 7, 0, 3, 2, 0, 157, 1, 1, 2, 7, 0, 2, 1, 1, 2, 0, 11, 3, 11, 0, 6, 4, 2, 1, 1, 0, 1, 2, 0, 11, 2, 7, 1, 3, 2, 0, 11, 1, 1, 2, 11, 0, 6, 4, 2, 1, 1, 0, 1, 2, 0, 10, 2, 13, 0, 2, 0, 48, 9, 5, 3, 0, 1, 1, 1, 0, 256, 0, 9, 9, 5, 3, 0, 1, 1, 1, 0, 256, 0, 57]), (20, [20, 5], [30, -4001, -1, 0, 0, -2, 0, 0]), (24, [0, 2], [])], [(20, 6, 0, 0)], [(11, 6, 0, 0)])
theorem oo_Mo_styleTokens_149 {kA : Nat → ClassId} : or_ok kA GG o_Mo_styleTokens_149 := by
  intro A ta ws vs hD hth hl hk hds hf
  have hl : vs.length = 20 := hl
  have hk : ∀ q ∈ ([(0, (2, 0, 0, [150])), (2, (2, 0, 0, [150])), (5, (0, 0, 1999, [])), (6, (0, 0, 4001, [])), (7, (0, 0, 255, [])), (8, (0, 32, 32, [])), (9, (0, 0, 255, [])), (10, (0, 10, 10, [])), (11, (0, 0, 4001, [])), (12, (0, 48, 57, []))] : List (Nat × tv_T)), tv_ok ta q.2 (n_v vs q.1) := hk
  obtain ⟨t0, hk⟩ := List.forall_mem_cons.mp hk
  have t0 : tv_ok ta (2, 0, 0, [150]) (n_v vs 0) := t0
  have r0 : ta (v_ad (n_v vs 0)) = some 150 := tv_rg t0
  obtain ⟨t2, hk⟩ := List.forall_mem_cons.mp hk
  have t2 : tv_ok ta (2, 0, 0, [150]) (n_v vs 2) := t2
  have r2 : ta (v_ad (n_v vs 2)) = some 150 := tv_rg t2
  obtain ⟨t5, hk⟩ := List.forall_mem_cons.mp hk
  have t5 : tv_ok ta (0, 0, 1999, []) (n_v vs 5) := t5
  have k5 : 0 ≤ v_iv (n_v vs 5) ∧ v_iv (n_v vs 5) ≤ 1999 := tv_rng t5
  obtain ⟨t6, hk⟩ := List.forall_mem_cons.mp hk
  have t6 : tv_ok ta (0, 0, 4001, []) (n_v vs 6) := t6
  have k6 : 0 ≤ v_iv (n_v vs 6) ∧ v_iv (n_v vs 6) ≤ 4001 := tv_rng t6
  obtain ⟨t7, hk⟩ := List.forall_mem_cons.mp hk
  have t7 : tv_ok ta (0, 0, 255, []) (n_v vs 7) := t7
  have k7 : 0 ≤ v_iv (n_v vs 7) ∧ v_iv (n_v vs 7) ≤ 255 := tv_rng t7
  obtain ⟨t8, hk⟩ := List.forall_mem_cons.mp hk
  have t8 : tv_ok ta (0, 32, 32, []) (n_v vs 8) := t8
  have k8 : 32 ≤ v_iv (n_v vs 8) ∧ v_iv (n_v vs 8) ≤ 32 := tv_rng t8
  obtain ⟨t9, hk⟩ := List.forall_mem_cons.mp hk
  have t9 : tv_ok ta (0, 0, 255, []) (n_v vs 9) := t9
  have k9 : 0 ≤ v_iv (n_v vs 9) ∧ v_iv (n_v vs 9) ≤ 255 := tv_rng t9
  obtain ⟨t10, hk⟩ := List.forall_mem_cons.mp hk
  have t10 : tv_ok ta (0, 10, 10, []) (n_v vs 10) := t10
  have k10 : 10 ≤ v_iv (n_v vs 10) ∧ v_iv (n_v vs 10) ≤ 10 := tv_rng t10
  obtain ⟨t11, hk⟩ := List.forall_mem_cons.mp hk
  have t11 : tv_ok ta (0, 0, 4001, []) (n_v vs 11) := t11
  have k11 : 0 ≤ v_iv (n_v vs 11) ∧ v_iv (n_v vs 11) ≤ 4001 := tv_rng t11
  obtain ⟨t12, hk⟩ := List.forall_mem_cons.mp hk
  have t12 : tv_ok ta (0, 48, 57, []) (n_v vs 12) := t12
  have k12 : 48 ≤ v_iv (n_v vs 12) ∧ v_iv (n_v vs 12) ≤ 57 := tv_rng t12
  have hds : ∀ q ∈ ([(11, 6, 0, 0)] : List of_T), n_iv vs q.2.1 + q.2.2.1 ≤ n_iv vs q.1 ∧ n_iv vs q.1 ≤ n_iv vs q.2.1 + q.2.2.2 := hds
  obtain ⟨d0, hds⟩ := List.forall_mem_cons.mp hds
  have d0 : v_iv (n_v vs 6) + 0 ≤ v_iv (n_v vs 11) ∧ v_iv (n_v vs 11) ≤ v_iv (n_v vs 6) + 0 := d0
  have hf : fc_ok [(8, [12], [3]), (9, [5, 2], [11]), (20, [5, 2, 12], [50, 1, 1, 1010, 1001, 4, 11, 0, 6, 4, 2, 1, 0, 0, 1, 2, 1, 10, 1, 2, 1, 2, 9, 5, 3, 1, 1, 1, 0, 0, 256]), (20, [2, 5, 12], [50, 1, 0, 10, 4, 7, 0, 3, 2, 0, 10, 1, 1, 1, 2, 1, 2, 0, -1]), (20, [2], [50, 2, 0, 157, 11, 0, 3, 2, 0, 157, 2, 0, 11]), (20, [11, 2], [30, -4001, -1, 0, 0, -2, 1, 11]), (24, [0, 2], []), (7, [9, 10], [1]), (20, [5, 2, 9], [50, 1, 1, 1010, 1001, 4, 11, 0, 6, 4, 2, 1, 0, 0, 1, 2, 1, 10, 1, 2, 1, 2, 9, 5, 3, 1, 1, 1, 0, 0, 256]), (20, [2, 5, 9], [50, 1, 0, 10, 4, 7, 0, 3, 2, 0, 10, 1, 1, 1, 2, 1, 2, 0, -1]), (7, [7, 8], [1]), (20, [5, 2, 7], [50, 1, 1, 1010, 1001, 4, 11, 0, 6, 4, 2, 1, 0, 0, 1, 2, 1, 10, 1, 2, 1, 2, 9, 5, 3, 1, 1, 1, 0, 0, 256]), (20, [2, 5, 7], [50, 1, 0, 10, 4, 7, 0, 3, 2, 0, 10, 1, 1, 1, 2, 1, 2, 0, -1]), (20, [2], [50, 2, 0, 157, 11, 0, 3, 2, 0, 157, 2, 0, 11]), (20, [6, 2], [30, -4001, -1, 0, 0, -2, 1, 11])] ta ws vs := hf
  obtain ⟨f0, hf⟩ := fc_un (by decide) hf
  have f0 : 0 ≤ v_iv (n_v vs 12) := f0
  obtain ⟨f1, hf⟩ := fc_un (by decide) hf
  have f1 : n_v vs 5 = w_fd ws (v_ad (n_v vs 2)) 11 := f1
  obtain ⟨f2, hf⟩ := fc_un (by decide) hf
  have f2 : ((v_iv (n_v vs 5) + 1) ≤ w_fi ws (n_v vs 2) 10) → (v_iv (n_v vs 12) = (w_ei ws (w_ar ws (n_v vs 2) 1) (v_iv (n_v vs 5)) % 256)) := f2
  obtain ⟨f3, hf⟩ := fc_un (by decide) hf
  have f3 : (w_fi ws (n_v vs 2) 10 ≤ v_iv (n_v vs 5)) → (v_iv (n_v vs 12) = (-1)) := f3
  obtain ⟨f4, hf⟩ := fc_un (by decide) hf
  have f4 : w_fi ws (n_v vs 2) 157 ≤ w_fi ws (n_v vs 2) 11 := f4
  obtain ⟨f5, hf⟩ := fc_un (by decide) hf
  have f5 : (-1) * v_iv (n_v vs 11) + ((-2) * w_fi ws (n_v vs 2) 11 + 0) ≤ (-4001) := f5
  obtain ⟨f6, hf⟩ := fc_un (by decide) hf
  have f6 : n_v vs 0 = n_v vs 2 := f6
  obtain ⟨f7, hf⟩ := fc_un (by decide) hf
  have f7 : v_iv (n_v vs 9) ≠ v_iv (n_v vs 10) := f7
  obtain ⟨f8, hf⟩ := fc_un (by decide) hf
  have f8 : ((v_iv (n_v vs 5) + 1) ≤ w_fi ws (n_v vs 2) 10) → (v_iv (n_v vs 9) = (w_ei ws (w_ar ws (n_v vs 2) 1) (v_iv (n_v vs 5)) % 256)) := f8
  obtain ⟨f9, hf⟩ := fc_un (by decide) hf
  have f9 : (w_fi ws (n_v vs 2) 10 ≤ v_iv (n_v vs 5)) → (v_iv (n_v vs 9) = (-1)) := f9
  obtain ⟨f10, hf⟩ := fc_un (by decide) hf
  have f10 : v_iv (n_v vs 7) ≠ v_iv (n_v vs 8) := f10
  obtain ⟨f11, hf⟩ := fc_un (by decide) hf
  have f11 : ((v_iv (n_v vs 5) + 1) ≤ w_fi ws (n_v vs 2) 10) → (v_iv (n_v vs 7) = (w_ei ws (w_ar ws (n_v vs 2) 1) (v_iv (n_v vs 5)) % 256)) := f11
  obtain ⟨f12, hf⟩ := fc_un (by decide) hf
  have f12 : (w_fi ws (n_v vs 2) 10 ≤ v_iv (n_v vs 5)) → (v_iv (n_v vs 7) = (-1)) := f12
  obtain ⟨f13, hf⟩ := fc_un (by decide) hf
  have f13 : w_fi ws (n_v vs 2) 157 ≤ w_fi ws (n_v vs 2) 11 := f13
  obtain ⟨f14, hf⟩ := fc_un (by decide) hf
  have f14 : (-1) * v_iv (n_v vs 6) + ((-2) * w_fi ws (n_v vs 2) 11 + 0) ≤ (-4001) := f14
  have q2 : n_v vs 2 = n_v vs 0 := f6.symm
  rw [q2] at f1
  rw [q2] at f2
  rw [q2] at f3
  rw [q2] at f4
  rw [q2] at f5
  rw [q2] at f8
  rw [q2] at f9
  rw [q2] at f11
  rw [q2] at f12
  rw [q2] at f13
  rw [q2] at f14
  have cr_0_1 : ta (w_ar ws (n_v vs 0) 1) = some 151 := tv_rg (th_fd hD hth r0 (g := GG_150) rfl (k := 1) (t := (2, 0, 0, [151])) rfl rfl)
  have g1 : v_iv (n_v vs 5) = w_fi ws (n_v vs 0) 11 := congrArg v_iv f1
  have hK_0_1 : ∀ j : Int, 0 ≤ j → j < 2000 → (-128) ≤ w_ei ws (w_ar ws (n_v vs 0) 1) j ∧ w_ei ws (w_ar ws (n_v vs 0) 1) j ≤ 127 := fun j h0 h1 => th_el hD hth cr_0_1 (kd := 1) (n := 2000) (m := 2000) (lo := (-128)) (hi := 127) (rs := []) (L := []) rfl (by decide) (j := j.toNat) (by omega)
  have kz_0_10 : 0 ≤ w_fi ws (n_v vs 0) 10 ∧ w_fi ws (n_v vs 0) 10 ≤ 2000 := tv_rng (th_fd hD hth r0 (g := GG_150) rfl (k := 10) (t := (0, 0, 2000, [])) rfl rfl)
  have kz_0_11 : 0 ≤ w_fi ws (n_v vs 0) 11 ∧ w_fi ws (n_v vs 0) 11 ≤ 2000 := tv_rng (th_fd hD hth r0 (g := GG_150) rfl (k := 11) (t := (0, 0, 2000, [])) rfl rfl)
  have kz_0_157 : 0 ≤ w_fi ws (n_v vs 0) 157 ∧ w_fi ws (n_v vs 0) 157 ≤ 2010 := tv_rng (th_fd hD hth r0 (g := GG_150) rfl (k := 157) (t := (0, 0, 2010, [])) rfl rfl)
  obtain ⟨x, ex, hx⟩ := iv_ex (ta := ta) (lo := 0) (hi := 4001) (z := 0 + (1 * v_iv (n_v vs 6) + 0)) (by omega) (by omega) (by decide) (by decide)
  have ex2 : v_iv (Value.int x) = 0 + (1 * v_iv (n_v vs 6) + 0) := ex
  have ex3 : 0 ≤ v_iv (Value.int x) ∧ v_iv (Value.int x) ≤ 4001 := tv_rng hx
  have e_0 : n_v (vs ++ [Value.int x]) 0 = n_v vs 0 := n_v_old (by rw [hl]; decide)
  have e_2 : n_v (vs ++ [Value.int x]) 2 = n_v vs 2 := n_v_old (by rw [hl]; decide)
  have e_5 : n_v (vs ++ [Value.int x]) 5 = n_v vs 5 := n_v_old (by rw [hl]; decide)
  have e_20 : n_v (vs ++ [Value.int x]) 20 = Value.int x := n_v_new hl
  have nf0 : fc_1 (20, [2, 5], [50, 3, 1, 157, 11, 10, 1, 2, 7, 0, 3, 2, 0, 157, 1, 1, 2, 7, 0, 2, 1, 1, 2, 0, 11, 3, 11, 0, 6, 4, 2, 1, 1, 0, 1, 2, 0, 11, 2, 7, 1, 3, 2, 0, 11, 1, 1, 2, 11, 0, 6, 4, 2, 1, 1, 0, 1, 2, 0, 10, 2, 13, 0, 2, 0, 48, 9, 5, 3, 0, 1, 1, 1, 0, 256, 0, 9, 9, 5, 3, 0, 1, 1, 1, 0, 256, 0, 57]) ws (vs ++ [Value.int x]) := by
    refine ⟨fun n hn => ?_, ?_⟩
    · have hn : n ∈ [2, 5] := hn
      rw [List.length_append, hl]
      simp only [List.mem_cons, List.not_mem_nil, or_false] at hn
      show n < 20 + 1; omega
    · show (w_fi ws (n_v (vs ++ [Value.int x]) 2) 157 ≤ v_iv (n_v (vs ++ [Value.int x]) 5)) ∧ ((v_iv (n_v (vs ++ [Value.int x]) 5) ≤ w_fi ws (n_v (vs ++ [Value.int x]) 2) 11) ∧ (((v_iv (n_v (vs ++ [Value.int x]) 5) + 1) ≤ w_fi ws (n_v (vs ++ [Value.int x]) 2) 11) ∨ ((w_fi ws (n_v (vs ++ [Value.int x]) 2) 11 = v_iv (n_v (vs ++ [Value.int x]) 5)) ∧ (((v_iv (n_v (vs ++ [Value.int x]) 5) + 1) ≤ w_fi ws (n_v (vs ++ [Value.int x]) 2) 10) ∧ ((48 ≤ (w_ei ws (w_ar ws (n_v (vs ++ [Value.int x]) 2) 1) (v_iv (n_v (vs ++ [Value.int x]) 5)) % 256)) ∧ ((w_ei ws (w_ar ws (n_v (vs ++ [Value.int x]) 2) 1) (v_iv (n_v (vs ++ [Value.int x]) 5)) % 256) ≤ 57))))))
      rw [e_2]
      rw [e_5]
      rw [q2]
      first | omega | grind
  have nf1 : fc_1 (20, [20, 5], [30, -4001, -1, 0, 0, -2, 0, 0]) ws (vs ++ [Value.int x]) := by
    refine ⟨fun n hn => ?_, ?_⟩
    · have hn : n ∈ [20, 5] := hn
      rw [List.length_append, hl]
      simp only [List.mem_cons, List.not_mem_nil, or_false] at hn
      show n < 20 + 1; omega
    · show (-1) * v_iv (n_v (vs ++ [Value.int x]) 20) + ((-2) * v_iv (n_v (vs ++ [Value.int x]) 5) + 0) ≤ (-4001)
      rw [e_5]
      rw [e_20]
      omega
  have nf2 : fc_1 (24, [0, 2], []) ws (vs ++ [Value.int x]) := by
    refine ⟨fun n hn => ?_, ?_⟩
    · have hn : n ∈ [0, 2] := hn
      rw [List.length_append, hl]
      simp only [List.mem_cons, List.not_mem_nil, or_false] at hn
      show n < 20 + 1; omega
    · show n_v (vs ++ [Value.int x]) 0 = n_v (vs ++ [Value.int x]) 2
      first | rfl | simp only [e_0, e_2, q2]
  obtain ⟨x0, e0, _, _⟩ := tv_int t6 rfl
  have e1 : v_iv (n_v vs 6) = x0.toInt := by rw [e0]; rfl
  have ho : sy_ofs (vs ++ [Value.int x]) (20, 6, 0, 0) := by
    refine ⟨x, x0, by rw [List.getElem?_append_right (by rw [hl]; decide), hl]; rfl, ?_, ?_, ?_⟩
    · rw [List.getElem?_append_left (by rw [hl]; decide)]; exact n_v_some (by rw [hl]; decide) e0
    · show x0.toInt + 0 ≤ x.toInt; omega
    · show x.toInt ≤ x0.toInt + 0; omega
  exact ⟨fun q hq => (by cases hq), [Value.int x], ag_one hx, List.forall_mem_cons.mpr ⟨⟨by decide, nf0⟩, List.forall_mem_cons.mpr ⟨⟨by decide, nf1⟩, List.forall_mem_cons.mpr ⟨⟨by decide, nf2⟩, (fun _ h => (by cases h))⟩⟩⟩, List.forall_mem_cons.mpr ⟨ho, (fun _ h => (by cases h))⟩⟩
def o_Mo_styleTokens_150 : or_T := (250, 19, [(0, (2, 0, 0, [150])), (2, (2, 0, 0, [150])), (5, (0, 0, 1999, [])), (6, (0, 0, 4001, [])), (7, (0, 0, 255, [])), (8, (0, 32, 32, [])), (9, (0, 0, 255, [])), (10, (0, 10, 10, [])), (11, (0, 0, 4001, [])), (12, (0, 123, 255, []))], [(8, [12], [3]), (9, [5, 2], [11]), (20, [5, 2, 12], [50, 1, 1, 1010, 1001, 4, 11, 0, 6, 4, 2, 1, 0, 0, 1, 2, 1, 10, 1, 2, 1, 2, 9, 5, 3, 1, 1, 1, 0, 0, 256]), (20, [2, 5, 12], [50, 1, 0, 10, 4, 7, 0, 3, 2, 0, 10, 1, 1, 1, 2, 1, 2, 0, -1]), (20, [2], [50, 2, 0, 157, 11, 0, 3, 2, 0, 157, 2, 0, 11]), (20, [11, 2], [30, -4001, -1, 0, 0, -2, 1, 11]), (24, [0, 2], []), (7, [9, 10], [1]), (20, [5, 2, 9], [50, 1, 1, 1010, 1001, 4, 11, 0, 6, 4, 2, 1, 0, 0, 1, 2, 1, 10, 1, 2, 1, 2, 9, 5, 3, 1, 1, 1, 0, 0, 256]), (20, [2, 5, 9], [50, 1, 0, 10, 4, 7, 0, 3, 2, 0, 10, 1, 1, 1, 2, 1, 2, 0, -1]), (7, [7, 8], [1]), (20, [5, 2, 7], [50, 1, 1, 1010, 1001, 4, 11, 0, 6, 4, 2, 1, 0, 0, 1, 2, 1, 10, 1, 2, 1, 2, 9, 5, 3, 1, 1, 1, 0, 0, 256]), (20, [2, 5, 7], [50, 1, 0, 10, 4, 7, 0, 3, 2, 0, 10, 1, 1, 1, 2, 1, 2, 0, -1]), (20, [2], [50, 2, 0, 157, 11, 0, 3, 2, 0, 157, 2, 0, 11]), (20, [6, 2], [30, -4001, -1, 0, 0, -2, 1, 11])], [], [(0, 0, 4001, [])], [(20, [2, 5], [50, 2, 0, 157, 11, 2, 7, 0, 3, 2, 0, 157, 1, 1, 1, 3, 2, 0, 11, 1, 1]), (20, [19, 5], [30, -4001, -1, 0, 0, -2, 0, 0]), (24, [0, 2], [])], [(19, 6, 0, 0)], [(11, 6, 0, 0)])
theorem oo_Mo_styleTokens_150 {kA : Nat → ClassId} : or_ok kA GG o_Mo_styleTokens_150 := by
  intro A ta ws vs hD hth hl hk hds hf
  have hl : vs.length = 19 := hl
  have hk : ∀ q ∈ ([(0, (2, 0, 0, [150])), (2, (2, 0, 0, [150])), (5, (0, 0, 1999, [])), (6, (0, 0, 4001, [])), (7, (0, 0, 255, [])), (8, (0, 32, 32, [])), (9, (0, 0, 255, [])), (10, (0, 10, 10, [])), (11, (0, 0, 4001, [])), (12, (0, 123, 255, []))] : List (Nat × tv_T)), tv_ok ta q.2 (n_v vs q.1) := hk
  obtain ⟨t0, hk⟩ := List.forall_mem_cons.mp hk
  have t0 : tv_ok ta (2, 0, 0, [150]) (n_v vs 0) := t0
  have r0 : ta (v_ad (n_v vs 0)) = some 150 := tv_rg t0
  obtain ⟨t2, hk⟩ := List.forall_mem_cons.mp hk
  have t2 : tv_ok ta (2, 0, 0, [150]) (n_v vs 2) := t2
  have r2 : ta (v_ad (n_v vs 2)) = some 150 := tv_rg t2
  obtain ⟨t5, hk⟩ := List.forall_mem_cons.mp hk
  have t5 : tv_ok ta (0, 0, 1999, []) (n_v vs 5) := t5
  have k5 : 0 ≤ v_iv (n_v vs 5) ∧ v_iv (n_v vs 5) ≤ 1999 := tv_rng t5
  obtain ⟨t6, hk⟩ := List.forall_mem_cons.mp hk
  have t6 : tv_ok ta (0, 0, 4001, []) (n_v vs 6) := t6
  have k6 : 0 ≤ v_iv (n_v vs 6) ∧ v_iv (n_v vs 6) ≤ 4001 := tv_rng t6
  obtain ⟨t7, hk⟩ := List.forall_mem_cons.mp hk
  have t7 : tv_ok ta (0, 0, 255, []) (n_v vs 7) := t7
  have k7 : 0 ≤ v_iv (n_v vs 7) ∧ v_iv (n_v vs 7) ≤ 255 := tv_rng t7
  obtain ⟨t8, hk⟩ := List.forall_mem_cons.mp hk
  have t8 : tv_ok ta (0, 32, 32, []) (n_v vs 8) := t8
  have k8 : 32 ≤ v_iv (n_v vs 8) ∧ v_iv (n_v vs 8) ≤ 32 := tv_rng t8
  obtain ⟨t9, hk⟩ := List.forall_mem_cons.mp hk
  have t9 : tv_ok ta (0, 0, 255, []) (n_v vs 9) := t9
  have k9 : 0 ≤ v_iv (n_v vs 9) ∧ v_iv (n_v vs 9) ≤ 255 := tv_rng t9
  obtain ⟨t10, hk⟩ := List.forall_mem_cons.mp hk
  have t10 : tv_ok ta (0, 10, 10, []) (n_v vs 10) := t10
  have k10 : 10 ≤ v_iv (n_v vs 10) ∧ v_iv (n_v vs 10) ≤ 10 := tv_rng t10
  obtain ⟨t11, hk⟩ := List.forall_mem_cons.mp hk
  have t11 : tv_ok ta (0, 0, 4001, []) (n_v vs 11) := t11
  have k11 : 0 ≤ v_iv (n_v vs 11) ∧ v_iv (n_v vs 11) ≤ 4001 := tv_rng t11
  obtain ⟨t12, hk⟩ := List.forall_mem_cons.mp hk
  have t12 : tv_ok ta (0, 123, 255, []) (n_v vs 12) := t12
  have k12 : 123 ≤ v_iv (n_v vs 12) ∧ v_iv (n_v vs 12) ≤ 255 := tv_rng t12
  have hds : ∀ q ∈ ([(11, 6, 0, 0)] : List of_T), n_iv vs q.2.1 + q.2.2.1 ≤ n_iv vs q.1 ∧ n_iv vs q.1 ≤ n_iv vs q.2.1 + q.2.2.2 := hds
  obtain ⟨d0, hds⟩ := List.forall_mem_cons.mp hds
  have d0 : v_iv (n_v vs 6) + 0 ≤ v_iv (n_v vs 11) ∧ v_iv (n_v vs 11) ≤ v_iv (n_v vs 6) + 0 := d0
  have hf : fc_ok [(8, [12], [3]), (9, [5, 2], [11]), (20, [5, 2, 12], [50, 1, 1, 1010, 1001, 4, 11, 0, 6, 4, 2, 1, 0, 0, 1, 2, 1, 10, 1, 2, 1, 2, 9, 5, 3, 1, 1, 1, 0, 0, 256]), (20, [2, 5, 12], [50, 1, 0, 10, 4, 7, 0, 3, 2, 0, 10, 1, 1, 1, 2, 1, 2, 0, -1]), (20, [2], [50, 2, 0, 157, 11, 0, 3, 2, 0, 157, 2, 0, 11]), (20, [11, 2], [30, -4001, -1, 0, 0, -2, 1, 11]), (24, [0, 2], []), (7, [9, 10], [1]), (20, [5, 2, 9], [50, 1, 1, 1010, 1001, 4, 11, 0, 6, 4, 2, 1, 0, 0, 1, 2, 1, 10, 1, 2, 1, 2, 9, 5, 3, 1, 1, 1, 0, 0, 256]), (20, [2, 5, 9], [50, 1, 0, 10, 4, 7, 0, 3, 2, 0, 10, 1, 1, 1, 2, 1, 2, 0, -1]), (7, [7, 8], [1]), (20, [5, 2, 7], [50, 1, 1, 1010, 1001, 4, 11, 0, 6, 4, 2, 1, 0, 0, 1, 2, 1, 10, 1, 2, 1, 2, 9, 5, 3, 1, 1, 1, 0, 0, 256]), (20, [2, 5, 7], [50, 1, 0, 10, 4, 7, 0, 3, 2, 0, 10, 1, 1, 1, 2, 1, 2, 0, -1]), (20, [2], [50, 2, 0, 157, 11, 0, 3, 2, 0, 157, 2, 0, 11]), (20, [6, 2], [30, -4001, -1, 0, 0, -2, 1, 11])] ta ws vs := hf
  obtain ⟨f0, hf⟩ := fc_un (by decide) hf
  have f0 : 0 ≤ v_iv (n_v vs 12) := f0
  obtain ⟨f1, hf⟩ := fc_un (by decide) hf
  have f1 : n_v vs 5 = w_fd ws (v_ad (n_v vs 2)) 11 := f1
  obtain ⟨f2, hf⟩ := fc_un (by decide) hf
  have f2 : ((v_iv (n_v vs 5) + 1) ≤ w_fi ws (n_v vs 2) 10) → (v_iv (n_v vs 12) = (w_ei ws (w_ar ws (n_v vs 2) 1) (v_iv (n_v vs 5)) % 256)) := f2
  obtain ⟨f3, hf⟩ := fc_un (by decide) hf
  have f3 : (w_fi ws (n_v vs 2) 10 ≤ v_iv (n_v vs 5)) → (v_iv (n_v vs 12) = (-1)) := f3
  obtain ⟨f4, hf⟩ := fc_un (by decide) hf
  have f4 : w_fi ws (n_v vs 2) 157 ≤ w_fi ws (n_v vs 2) 11 := f4
  obtain ⟨f5, hf⟩ := fc_un (by decide) hf
  have f5 : (-1) * v_iv (n_v vs 11) + ((-2) * w_fi ws (n_v vs 2) 11 + 0) ≤ (-4001) := f5
  obtain ⟨f6, hf⟩ := fc_un (by decide) hf
  have f6 : n_v vs 0 = n_v vs 2 := f6
  obtain ⟨f7, hf⟩ := fc_un (by decide) hf
  have f7 : v_iv (n_v vs 9) ≠ v_iv (n_v vs 10) := f7
  obtain ⟨f8, hf⟩ := fc_un (by decide) hf
  have f8 : ((v_iv (n_v vs 5) + 1) ≤ w_fi ws (n_v vs 2) 10) → (v_iv (n_v vs 9) = (w_ei ws (w_ar ws (n_v vs 2) 1) (v_iv (n_v vs 5)) % 256)) := f8
  obtain ⟨f9, hf⟩ := fc_un (by decide) hf
  have f9 : (w_fi ws (n_v vs 2) 10 ≤ v_iv (n_v vs 5)) → (v_iv (n_v vs 9) = (-1)) := f9
  obtain ⟨f10, hf⟩ := fc_un (by decide) hf
  have f10 : v_iv (n_v vs 7) ≠ v_iv (n_v vs 8) := f10
  obtain ⟨f11, hf⟩ := fc_un (by decide) hf
  have f11 : ((v_iv (n_v vs 5) + 1) ≤ w_fi ws (n_v vs 2) 10) → (v_iv (n_v vs 7) = (w_ei ws (w_ar ws (n_v vs 2) 1) (v_iv (n_v vs 5)) % 256)) := f11
  obtain ⟨f12, hf⟩ := fc_un (by decide) hf
  have f12 : (w_fi ws (n_v vs 2) 10 ≤ v_iv (n_v vs 5)) → (v_iv (n_v vs 7) = (-1)) := f12
  obtain ⟨f13, hf⟩ := fc_un (by decide) hf
  have f13 : w_fi ws (n_v vs 2) 157 ≤ w_fi ws (n_v vs 2) 11 := f13
  obtain ⟨f14, hf⟩ := fc_un (by decide) hf
  have f14 : (-1) * v_iv (n_v vs 6) + ((-2) * w_fi ws (n_v vs 2) 11 + 0) ≤ (-4001) := f14
  have q2 : n_v vs 2 = n_v vs 0 := f6.symm
  rw [q2] at f1
  rw [q2] at f2
  rw [q2] at f3
  rw [q2] at f4
  rw [q2] at f5
  rw [q2] at f8
  rw [q2] at f9
  rw [q2] at f11
  rw [q2] at f12
  rw [q2] at f13
  rw [q2] at f14
  have cr_0_1 : ta (w_ar ws (n_v vs 0) 1) = some 151 := tv_rg (th_fd hD hth r0 (g := GG_150) rfl (k := 1) (t := (2, 0, 0, [151])) rfl rfl)
  have g1 : v_iv (n_v vs 5) = w_fi ws (n_v vs 0) 11 := congrArg v_iv f1
  have hK_0_1 : ∀ j : Int, 0 ≤ j → j < 2000 → (-128) ≤ w_ei ws (w_ar ws (n_v vs 0) 1) j ∧ w_ei ws (w_ar ws (n_v vs 0) 1) j ≤ 127 := fun j h0 h1 => th_el hD hth cr_0_1 (kd := 1) (n := 2000) (m := 2000) (lo := (-128)) (hi := 127) (rs := []) (L := []) rfl (by decide) (j := j.toNat) (by omega)
  have kz_0_10 : 0 ≤ w_fi ws (n_v vs 0) 10 ∧ w_fi ws (n_v vs 0) 10 ≤ 2000 := tv_rng (th_fd hD hth r0 (g := GG_150) rfl (k := 10) (t := (0, 0, 2000, [])) rfl rfl)
  have kz_0_11 : 0 ≤ w_fi ws (n_v vs 0) 11 ∧ w_fi ws (n_v vs 0) 11 ≤ 2000 := tv_rng (th_fd hD hth r0 (g := GG_150) rfl (k := 11) (t := (0, 0, 2000, [])) rfl rfl)
  have kz_0_157 : 0 ≤ w_fi ws (n_v vs 0) 157 ∧ w_fi ws (n_v vs 0) 157 ≤ 2010 := tv_rng (th_fd hD hth r0 (g := GG_150) rfl (k := 157) (t := (0, 0, 2010, [])) rfl rfl)
  obtain ⟨x, ex, hx⟩ := iv_ex (ta := ta) (lo := 0) (hi := 4001) (z := 0 + (1 * v_iv (n_v vs 6) + 0)) (by omega) (by omega) (by decide) (by decide)
  have ex2 : v_iv (Value.int x) = 0 + (1 * v_iv (n_v vs 6) + 0) := ex
  have ex3 : 0 ≤ v_iv (Value.int x) ∧ v_iv (Value.int x) ≤ 4001 := tv_rng hx
  have e_0 : n_v (vs ++ [Value.int x]) 0 = n_v vs 0 := n_v_old (by rw [hl]; decide)
  have e_2 : n_v (vs ++ [Value.int x]) 2 = n_v vs 2 := n_v_old (by rw [hl]; decide)
  have e_5 : n_v (vs ++ [Value.int x]) 5 = n_v vs 5 := n_v_old (by rw [hl]; decide)
  have e_19 : n_v (vs ++ [Value.int x]) 19 = Value.int x := n_v_new hl
  have nf0 : fc_1 (20, [2, 5], [50, 2, 0, 157, 11, 2, 7, 0, 3, 2, 0, 157, 1, 1, 1, 3, 2, 0, 11, 1, 1]) ws (vs ++ [Value.int x]) := by
    refine ⟨fun n hn => ?_, ?_⟩
    · have hn : n ∈ [2, 5] := hn
      rw [List.length_append, hl]
      simp only [List.mem_cons, List.not_mem_nil, or_false] at hn
      show n < 19 + 1; omega
    · show (w_fi ws (n_v (vs ++ [Value.int x]) 2) 157 ≤ v_iv (n_v (vs ++ [Value.int x]) 5)) ∧ (w_fi ws (n_v (vs ++ [Value.int x]) 2) 11 = v_iv (n_v (vs ++ [Value.int x]) 5))
      rw [e_2]
      rw [e_5]
      rw [q2]
      first | omega | grind
  have nf1 : fc_1 (20, [19, 5], [30, -4001, -1, 0, 0, -2, 0, 0]) ws (vs ++ [Value.int x]) := by
    refine ⟨fun n hn => ?_, ?_⟩
    · have hn : n ∈ [19, 5] := hn
      rw [List.length_append, hl]
      simp only [List.mem_cons, List.not_mem_nil, or_false] at hn
      show n < 19 + 1; omega
    · show (-1) * v_iv (n_v (vs ++ [Value.int x]) 19) + ((-2) * v_iv (n_v (vs ++ [Value.int x]) 5) + 0) ≤ (-4001)
      rw [e_5]
      rw [e_19]
      omega
  have nf2 : fc_1 (24, [0, 2], []) ws (vs ++ [Value.int x]) := by
    refine ⟨fun n hn => ?_, ?_⟩
    · have hn : n ∈ [0, 2] := hn
      rw [List.length_append, hl]
      simp only [List.mem_cons, List.not_mem_nil, or_false] at hn
      show n < 19 + 1; omega
    · show n_v (vs ++ [Value.int x]) 0 = n_v (vs ++ [Value.int x]) 2
      first | rfl | simp only [e_0, e_2, q2]
  obtain ⟨x0, e0, _, _⟩ := tv_int t6 rfl
  have e1 : v_iv (n_v vs 6) = x0.toInt := by rw [e0]; rfl
  have ho : sy_ofs (vs ++ [Value.int x]) (19, 6, 0, 0) := by
    refine ⟨x, x0, by rw [List.getElem?_append_right (by rw [hl]; decide), hl]; rfl, ?_, ?_, ?_⟩
    · rw [List.getElem?_append_left (by rw [hl]; decide)]; exact n_v_some (by rw [hl]; decide) e0
    · show x0.toInt + 0 ≤ x.toInt; omega
    · show x.toInt ≤ x0.toInt + 0; omega
  exact ⟨fun q hq => (by cases hq), [Value.int x], ag_one hx, List.forall_mem_cons.mpr ⟨⟨by decide, nf0⟩, List.forall_mem_cons.mpr ⟨⟨by decide, nf1⟩, List.forall_mem_cons.mpr ⟨⟨by decide, nf2⟩, (fun _ h => (by cases h))⟩⟩⟩, List.forall_mem_cons.mpr ⟨ho, (fun _ h => (by cases h))⟩⟩
def o_Mo_styleTokens_151 : or_T := (334, 21, [(0, (2, 0, 0, [150])), (2, (2, 0, 0, [150])), (5, (0, 0, 1999, [])), (6, (0, 0, 4001, [])), (7, (0, 0, 255, [])), (8, (0, 32, 32, [])), (9, (0, 0, 255, [])), (10, (0, 10, 10, [])), (11, (0, 0, 4001, [])), (12, (0, 123, 123, [])), (19, (0, 0, 4001, [])), (20, (0, 123, 123, []))], [(7, [12, 20], [0]), (20, [2, 5], [50, 2, 0, 157, 11, 2, 7, 0, 3, 2, 0, 157, 1, 1, 1, 3, 2, 0, 11, 1, 1]), (20, [19, 5], [30, -4001, -1, 0, 0, -2, 0, 0]), (24, [0, 2], []), (8, [12], [3]), (9, [5, 2], [11]), (20, [5, 2, 12], [50, 1, 1, 1010, 1001, 4, 11, 0, 6, 4, 2, 1, 0, 0, 1, 2, 1, 10, 1, 2, 1, 2, 9, 5, 3, 1, 1, 1, 0, 0, 256]), (20, [2, 5, 12], [50, 1, 0, 10, 4, 7, 0, 3, 2, 0, 10, 1, 1, 1, 2, 1, 2, 0, -1]), (20, [2], [50, 2, 0, 157, 11, 0, 3, 2, 0, 157, 2, 0, 11]), (20, [11, 2], [30, -4001, -1, 0, 0, -2, 1, 11]), (7, [9, 10], [1]), (20, [5, 2, 9], [50, 1, 1, 1010, 1001, 4, 11, 0, 6, 4, 2, 1, 0, 0, 1, 2, 1, 10, 1, 2, 1, 2, 9, 5, 3, 1, 1, 1, 0, 0, 256]), (20, [2, 5, 9], [50, 1, 0, 10, 4, 7, 0, 3, 2, 0, 10, 1, 1, 1, 2, 1, 2, 0, -1]), (7, [7, 8], [1]), (20, [5, 2, 7], [50, 1, 1, 1010, 1001, 4, 11, 0, 6, 4, 2, 1, 0, 0, 1, 2, 1, 10, 1, 2, 1, 2, 9, 5, 3, 1, 1, 1, 0, 0, 256]), (20, [2, 5, 7], [50, 1, 0, 10, 4, 7, 0, 3, 2, 0, 10, 1, 1, 1, 2, 1, 2, 0, -1]), (20, [2], [50, 2, 0, 157, 11, 0, 3, 2, 0, 157, 2, 0, 11]), (20, [6, 2], [30, -4001, -1, 0, 0, -2, 1, 11])], [], [(0, 0, 4001, [])], [(20, [2, 5], [50, 2, 0, 157, 11, 2, 7, 0, 3, 2, 0, 157, 1, 1, 1, 3, 2, 0, 11, 1, 1]), (20, [21, 5], [30, -4001, -1, 0, 0, -2, 0, 0]), (24, [0, 2], [])], [(21, 6, 0, 0)], [(19, 6, 0, 0), (11, 6, 0, 0)])
theorem oo_Mo_styleTokens_151 {kA : Nat → ClassId} : or_ok kA GG o_Mo_styleTokens_151 := by
  intro A ta ws vs hD hth hl hk hds hf
  have hl : vs.length = 21 := hl
  have hk : ∀ q ∈ ([(0, (2, 0, 0, [150])), (2, (2, 0, 0, [150])), (5, (0, 0, 1999, [])), (6, (0, 0, 4001, [])), (7, (0, 0, 255, [])), (8, (0, 32, 32, [])), (9, (0, 0, 255, [])), (10, (0, 10, 10, [])), (11, (0, 0, 4001, [])), (12, (0, 123, 123, [])), (19, (0, 0, 4001, [])), (20, (0, 123, 123, []))] : List (Nat × tv_T)), tv_ok ta q.2 (n_v vs q.1) := hk
  obtain ⟨t0, hk⟩ := List.forall_mem_cons.mp hk
  have t0 : tv_ok ta (2, 0, 0, [150]) (n_v vs 0) := t0
  have r0 : ta (v_ad (n_v vs 0)) = some 150 := tv_rg t0
  obtain ⟨t2, hk⟩ := List.forall_mem_cons.mp hk
  have t2 : tv_ok ta (2, 0, 0, [150]) (n_v vs 2) := t2
  have r2 : ta (v_ad (n_v vs 2)) = some 150 := tv_rg t2
  obtain ⟨t5, hk⟩ := List.forall_mem_cons.mp hk
  have t5 : tv_ok ta (0, 0, 1999, []) (n_v vs 5) := t5
  have k5 : 0 ≤ v_iv (n_v vs 5) ∧ v_iv (n_v vs 5) ≤ 1999 := tv_rng t5
  obtain ⟨t6, hk⟩ := List.forall_mem_cons.mp hk
  have t6 : tv_ok ta (0, 0, 4001, []) (n_v vs 6) := t6
  have k6 : 0 ≤ v_iv (n_v vs 6) ∧ v_iv (n_v vs 6) ≤ 4001 := tv_rng t6
  obtain ⟨t7, hk⟩ := List.forall_mem_cons.mp hk
  have t7 : tv_ok ta (0, 0, 255, []) (n_v vs 7) := t7
  have k7 : 0 ≤ v_iv (n_v vs 7) ∧ v_iv (n_v vs 7) ≤ 255 := tv_rng t7
  obtain ⟨t8, hk⟩ := List.forall_mem_cons.mp hk
  have t8 : tv_ok ta (0, 32, 32, []) (n_v vs 8) := t8
  have k8 : 32 ≤ v_iv (n_v vs 8) ∧ v_iv (n_v vs 8) ≤ 32 := tv_rng t8
  obtain ⟨t9, hk⟩ := List.forall_mem_cons.mp hk
  have t9 : tv_ok ta (0, 0, 255, []) (n_v vs 9) := t9
  have k9 : 0 ≤ v_iv (n_v vs 9) ∧ v_iv (n_v vs 9) ≤ 255 := tv_rng t9
  obtain ⟨t10, hk⟩ := List.forall_mem_cons.mp hk
  have t10 : tv_ok ta (0, 10, 10, []) (n_v vs 10) := t10
  have k10 : 10 ≤ v_iv (n_v vs 10) ∧ v_iv (n_v vs 10) ≤ 10 := tv_rng t10
  obtain ⟨t11, hk⟩ := List.forall_mem_cons.mp hk
  have t11 : tv_ok ta (0, 0, 4001, []) (n_v vs 11) := t11
  have k11 : 0 ≤ v_iv (n_v vs 11) ∧ v_iv (n_v vs 11) ≤ 4001 := tv_rng t11
  obtain ⟨t12, hk⟩ := List.forall_mem_cons.mp hk
  have t12 : tv_ok ta (0, 123, 123, []) (n_v vs 12) := t12
  have k12 : 123 ≤ v_iv (n_v vs 12) ∧ v_iv (n_v vs 12) ≤ 123 := tv_rng t12
  obtain ⟨t19, hk⟩ := List.forall_mem_cons.mp hk
  have t19 : tv_ok ta (0, 0, 4001, []) (n_v vs 19) := t19
  have k19 : 0 ≤ v_iv (n_v vs 19) ∧ v_iv (n_v vs 19) ≤ 4001 := tv_rng t19
  obtain ⟨t20, hk⟩ := List.forall_mem_cons.mp hk
  have t20 : tv_ok ta (0, 123, 123, []) (n_v vs 20) := t20
  have k20 : 123 ≤ v_iv (n_v vs 20) ∧ v_iv (n_v vs 20) ≤ 123 := tv_rng t20
  have hds : ∀ q ∈ ([(19, 6, 0, 0), (11, 6, 0, 0)] : List of_T), n_iv vs q.2.1 + q.2.2.1 ≤ n_iv vs q.1 ∧ n_iv vs q.1 ≤ n_iv vs q.2.1 + q.2.2.2 := hds
  obtain ⟨d0, hds⟩ := List.forall_mem_cons.mp hds
  have d0 : v_iv (n_v vs 6) + 0 ≤ v_iv (n_v vs 19) ∧ v_iv (n_v vs 19) ≤ v_iv (n_v vs 6) + 0 := d0
  obtain ⟨d1, hds⟩ := List.forall_mem_cons.mp hds
  have d1 : v_iv (n_v vs 6) + 0 ≤ v_iv (n_v vs 11) ∧ v_iv (n_v vs 11) ≤ v_iv (n_v vs 6) + 0 := d1
  have hf : fc_ok [(7, [12, 20], [0]), (20, [2, 5], [50, 2, 0, 157, 11, 2, 7, 0, 3, 2, 0, 157, 1, 1, 1, 3, 2, 0, 11, 1, 1]), (20, [19, 5], [30, -4001, -1, 0, 0, -2, 0, 0]), (24, [0, 2], []), (8, [12], [3]), (9, [5, 2], [11]), (20, [5, 2, 12], [50, 1, 1, 1010, 1001, 4, 11, 0, 6, 4, 2, 1, 0, 0, 1, 2, 1, 10, 1, 2, 1, 2, 9, 5, 3, 1, 1, 1, 0, 0, 256]), (20, [2, 5, 12], [50, 1, 0, 10, 4, 7, 0, 3, 2, 0, 10, 1, 1, 1, 2, 1, 2, 0, -1]), (20, [2], [50, 2, 0, 157, 11, 0, 3, 2, 0, 157, 2, 0, 11]), (20, [11, 2], [30, -4001, -1, 0, 0, -2, 1, 11]), (7, [9, 10], [1]), (20, [5, 2, 9], [50, 1, 1, 1010, 1001, 4, 11, 0, 6, 4, 2, 1, 0, 0, 1, 2, 1, 10, 1, 2, 1, 2, 9, 5, 3, 1, 1, 1, 0, 0, 256]), (20, [2, 5, 9], [50, 1, 0, 10, 4, 7, 0, 3, 2, 0, 10, 1, 1, 1, 2, 1, 2, 0, -1]), (7, [7, 8], [1]), (20, [5, 2, 7], [50, 1, 1, 1010, 1001, 4, 11, 0, 6, 4, 2, 1, 0, 0, 1, 2, 1, 10, 1, 2, 1, 2, 9, 5, 3, 1, 1, 1, 0, 0, 256]), (20, [2, 5, 7], [50, 1, 0, 10, 4, 7, 0, 3, 2, 0, 10, 1, 1, 1, 2, 1, 2, 0, -1]), (20, [2], [50, 2, 0, 157, 11, 0, 3, 2, 0, 157, 2, 0, 11]), (20, [6, 2], [30, -4001, -1, 0, 0, -2, 1, 11])] ta ws vs := hf
  obtain ⟨f0, hf⟩ := fc_un (by decide) hf
  have f0 : v_iv (n_v vs 12) = v_iv (n_v vs 20) := f0
  obtain ⟨f1, hf⟩ := fc_un (by decide) hf
  have f1 : (w_fi ws (n_v vs 2) 157 ≤ v_iv (n_v vs 5)) ∧ (w_fi ws (n_v vs 2) 11 = v_iv (n_v vs 5)) := f1
  obtain ⟨f2, hf⟩ := fc_un (by decide) hf
  have f2 : (-1) * v_iv (n_v vs 19) + ((-2) * v_iv (n_v vs 5) + 0) ≤ (-4001) := f2
  obtain ⟨f3, hf⟩ := fc_un (by decide) hf
  have f3 : n_v vs 0 = n_v vs 2 := f3
  obtain ⟨f4, hf⟩ := fc_un (by decide) hf
  have f4 : 0 ≤ v_iv (n_v vs 12) := f4
  obtain ⟨f5, hf⟩ := fc_un (by decide) hf
  have f5 : n_v vs 5 = w_fd ws (v_ad (n_v vs 2)) 11 := f5
  obtain ⟨f6, hf⟩ := fc_un (by decide) hf
  have f6 : ((v_iv (n_v vs 5) + 1) ≤ w_fi ws (n_v vs 2) 10) → (v_iv (n_v vs 12) = (w_ei ws (w_ar ws (n_v vs 2) 1) (v_iv (n_v vs 5)) % 256)) := f6
  obtain ⟨f7, hf⟩ := fc_un (by decide) hf
  have f7 : (w_fi ws (n_v vs 2) 10 ≤ v_iv (n_v vs 5)) → (v_iv (n_v vs 12) = (-1)) := f7
  obtain ⟨f8, hf⟩ := fc_un (by decide) hf
  have f8 : w_fi ws (n_v vs 2) 157 ≤ w_fi ws (n_v vs 2) 11 := f8
  obtain ⟨f9, hf⟩ := fc_un (by decide) hf
  have f9 : (-1) * v_iv (n_v vs 11) + ((-2) * w_fi ws (n_v vs 2) 11 + 0) ≤ (-4001) := f9
  obtain ⟨f10, hf⟩ := fc_un (by decide) hf
  have f10 : v_iv (n_v vs 9) ≠ v_iv (n_v vs 10) := f10
  obtain ⟨f11, hf⟩ := fc_un (by decide) hf
  have f11 : ((v_iv (n_v vs 5) + 1) ≤ w_fi ws (n_v vs 2) 10) → (v_iv (n_v vs 9) = (w_ei ws (w_ar ws (n_v vs 2) 1) (v_iv (n_v vs 5)) % 256)) := f11
  obtain ⟨f12, hf⟩ := fc_un (by decide) hf
  have f12 : (w_fi ws (n_v vs 2) 10 ≤ v_iv (n_v vs 5)) → (v_iv (n_v vs 9) = (-1)) := f12
  obtain ⟨f13, hf⟩ := fc_un (by decide) hf
  have f13 : v_iv (n_v vs 7) ≠ v_iv (n_v vs 8) := f13
  obtain ⟨f14, hf⟩ := fc_un (by decide) hf
  have f14 : ((v_iv (n_v vs 5) + 1) ≤ w_fi ws (n_v vs 2) 10) → (v_iv (n_v vs 7) = (w_ei ws (w_ar ws (n_v vs 2) 1) (v_iv (n_v vs 5)) % 256)) := f14
  obtain ⟨f15, hf⟩ := fc_un (by decide) hf
  have f15 : (w_fi ws (n_v vs 2) 10 ≤ v_iv (n_v vs 5)) → (v_iv (n_v vs 7) = (-1)) := f15
  obtain ⟨f16, hf⟩ := fc_un (by decide) hf
  have f16 : w_fi ws (n_v vs 2) 157 ≤ w_fi ws (n_v vs 2) 11 := f16
  obtain ⟨f17, hf⟩ := fc_un (by decide) hf
  have f17 : (-1) * v_iv (n_v vs 6) + ((-2) * w_fi ws (n_v vs 2) 11 + 0) ≤ (-4001) := f17
  have q2 : n_v vs 2 = n_v vs 0 := f3.symm
  rw [q2] at f1
  rw [q2] at f5
  rw [q2] at f6
  rw [q2] at f7
  rw [q2] at f8
  rw [q2] at f9
  rw [q2] at f11
  rw [q2] at f12
  rw [q2] at f14
  rw [q2] at f15
  rw [q2] at f16
  rw [q2] at f17
  have cr_0_1 : ta (w_ar ws (n_v vs 0) 1) = some 151 := tv_rg (th_fd hD hth r0 (g := GG_150) rfl (k := 1) (t := (2, 0, 0, [151])) rfl rfl)
  have g5 : v_iv (n_v vs 5) = w_fi ws (n_v vs 0) 11 := congrArg v_iv f5
  have hK_0_1 : ∀ j : Int, 0 ≤ j → j < 2000 → (-128) ≤ w_ei ws (w_ar ws (n_v vs 0) 1) j ∧ w_ei ws (w_ar ws (n_v vs 0) 1) j ≤ 127 := fun j h0 h1 => th_el hD hth cr_0_1 (kd := 1) (n := 2000) (m := 2000) (lo := (-128)) (hi := 127) (rs := []) (L := []) rfl (by decide) (j := j.toNat) (by omega)
  have kz_0_10 : 0 ≤ w_fi ws (n_v vs 0) 10 ∧ w_fi ws (n_v vs 0) 10 ≤ 2000 := tv_rng (th_fd hD hth r0 (g := GG_150) rfl (k := 10) (t := (0, 0, 2000, [])) rfl rfl)
  have kz_0_11 : 0 ≤ w_fi ws (n_v vs 0) 11 ∧ w_fi ws (n_v vs 0) 11 ≤ 2000 := tv_rng (th_fd hD hth r0 (g := GG_150) rfl (k := 11) (t := (0, 0, 2000, [])) rfl rfl)
  have kz_0_157 : 0 ≤ w_fi ws (n_v vs 0) 157 ∧ w_fi ws (n_v vs 0) 157 ≤ 2010 := tv_rng (th_fd hD hth r0 (g := GG_150) rfl (k := 157) (t := (0, 0, 2010, [])) rfl rfl)
  obtain ⟨x, ex, hx⟩ := iv_ex (ta := ta) (lo := 0) (hi := 4001) (z := 0 + (1 * v_iv (n_v vs 6) + 0)) (by omega) (by omega) (by decide) (by decide)
  have ex2 : v_iv (Value.int x) = 0 + (1 * v_iv (n_v vs 6) + 0) := ex
  have ex3 : 0 ≤ v_iv (Value.int x) ∧ v_iv (Value.int x) ≤ 4001 := tv_rng hx
  have e_0 : n_v (vs ++ [Value.int x]) 0 = n_v vs 0 := n_v_old (by rw [hl]; decide)
  have e_2 : n_v (vs ++ [Value.int x]) 2 = n_v vs 2 := n_v_old (by rw [hl]; decide)
  have e_5 : n_v (vs ++ [Value.int x]) 5 = n_v vs 5 := n_v_old (by rw [hl]; decide)
  have e_21 : n_v (vs ++ [Value.int x]) 21 = Value.int x := n_v_new hl
  have nf0 : fc_1 (20, [2, 5], [50, 2, 0, 157, 11, 2, 7, 0, 3, 2, 0, 157, 1, 1, 1, 3, 2, 0, 11, 1, 1]) ws (vs ++ [Value.int x]) := by
    refine ⟨fun n hn => ?_, ?_⟩
    · have hn : n ∈ [2, 5] := hn
      rw [List.length_append, hl]
      simp only [List.mem_cons, List.not_mem_nil, or_false] at hn
      show n < 21 + 1; omega
    · show (w_fi ws (n_v (vs ++ [Value.int x]) 2) 157 ≤ v_iv (n_v (vs ++ [Value.int x]) 5)) ∧ (w_fi ws (n_v (vs ++ [Value.int x]) 2) 11 = v_iv (n_v (vs ++ [Value.int x]) 5))
      rw [e_2]
      rw [e_5]
      rw [q2]
      first | omega | grind
  have nf1 : fc_1 (20, [21, 5], [30, -4001, -1, 0, 0, -2, 0, 0]) ws (vs ++ [Value.int x]) := by
    refine ⟨fun n hn => ?_, ?_⟩
    · have hn : n ∈ [21, 5] := hn
      rw [List.length_append, hl]
      simp only [List.mem_cons, List.not_mem_nil, or_false] at hn
      show n < 21 + 1; omega
    · show (-1) * v_iv (n_v (vs ++ [Value.int x]) 21) + ((-2) * v_iv (n_v (vs ++ [Value.int x]) 5) + 0) ≤ (-4001)
      rw [e_5]
      rw [e_21]
      omega
  have nf2 : fc_1 (24, [0, 2], []) ws (vs ++ [Value.int x]) := by
    refine ⟨fun n hn => ?_, ?_⟩
    · have hn : n ∈ [0, 2] := hn
      rw [List.length_append, hl]
      simp only [List.mem_cons, List.not_mem_nil, or_false] at hn
      show n < 21 + 1; omega
    · show n_v (vs ++ [Value.int x]) 0 = n_v (vs ++ [Value.int x]) 2
      first | rfl | simp only [e_0, e_2, q2]
  obtain ⟨x0, e0, _, _⟩ := tv_int t6 rfl
  have e1 : v_iv (n_v vs 6) = x0.toInt := by rw [e0]; rfl
  have ho : sy_ofs (vs ++ [Value.int x]) (21, 6, 0, 0) := by
    refine ⟨x, x0, by rw [List.getElem?_append_right (by rw [hl]; decide), hl]; rfl, ?_, ?_, ?_⟩
    · rw [List.getElem?_append_left (by rw [hl]; decide)]; exact n_v_some (by rw [hl]; decide) e0
    · show x0.toInt + 0 ≤ x.toInt; omega
    · show x.toInt ≤ x0.toInt + 0; omega
  exact ⟨fun q hq => (by cases hq), [Value.int x], ag_one hx, List.forall_mem_cons.mpr ⟨⟨by decide, nf0⟩, List.forall_mem_cons.mpr ⟨⟨by decide, nf1⟩, List.forall_mem_cons.mpr ⟨⟨by decide, nf2⟩, (fun _ h => (by cases h))⟩⟩⟩, List.forall_mem_cons.mpr ⟨ho, (fun _ h => (by cases h))⟩⟩
def o_Mo_styleTokens_152 : or_T := (339, 23, [(0, (2, 0, 0, [150])), (2, (2, 0, 0, [150])), (5, (0, 0, 1999, [])), (6, (0, 0, 4001, [])), (7, (0, 0, 255, [])), (8, (0, 32, 32, [])), (9, (0, 0, 255, [])), (10, (0, 10, 10, [])), (11, (0, 0, 4001, [])), (12, (0, 123, 123, [])), (19, (0, 0, 4001, [])), (20, (0, 123, 123, [])), (21, (0, 0, 4001, []))], [(20, [2, 5], [50, 2, 0, 157, 11, 2, 7, 0, 3, 2, 0, 157, 1, 1, 1, 3, 2, 0, 11, 1, 1]), (20, [21, 5], [30, -4001, -1, 0, 0, -2, 0, 0]), (24, [0, 2], []), (7, [12, 20], [0]), (20, [2, 5], [50, 2, 0, 157, 11, 2, 7, 0, 3, 2, 0, 157, 1, 1, 1, 3, 2, 0, 11, 1, 1]), (20, [19, 5], [30, -4001, -1, 0, 0, -2, 0, 0]), (8, [12], [3]), (9, [5, 2], [11]), (20, [5, 2, 12], [50, 1, 1, 1010, 1001, 4, 11, 0, 6, 4, 2, 1, 0, 0, 1, 2, 1, 10, 1, 2, 1, 2, 9, 5, 3, 1, 1, 1, 0, 0, 256]), (20, [2, 5, 12], [50, 1, 0, 10, 4, 7, 0, 3, 2, 0, 10, 1, 1, 1, 2, 1, 2, 0, -1]), (20, [2], [50, 2, 0, 157, 11, 0, 3, 2, 0, 157, 2, 0, 11]), (20, [11, 2], [30, -4001, -1, 0, 0, -2, 1, 11]), (7, [9, 10], [1]), (20, [5, 2, 9], [50, 1, 1, 1010, 1001, 4, 11, 0, 6, 4, 2, 1, 0, 0, 1, 2, 1, 10, 1, 2, 1, 2, 9, 5, 3, 1, 1, 1, 0, 0, 256]), (20, [2, 5, 9], [50, 1, 0, 10, 4, 7, 0, 3, 2, 0, 10, 1, 1, 1, 2, 1, 2, 0, -1]), (7, [7, 8], [1]), (20, [5, 2, 7], [50, 1, 1, 1010, 1001, 4, 11, 0, 6, 4, 2, 1, 0, 0, 1, 2, 1, 10, 1, 2, 1, 2, 9, 5, 3, 1, 1, 1, 0, 0, 256]), (20, [2, 5, 7], [50, 1, 0, 10, 4, 7, 0, 3, 2, 0, 10, 1, 1, 1, 2, 1, 2, 0, -1]), (20, [2], [50, 2, 0, 157, 11, 0, 3, 2, 0, 157, 2, 0, 11]), (20, [6, 2], [30, -4001, -1, 0, 0, -2, 1, 11])], [], [(0, 0, 4001, [])], [(20, [2, 5], [50, 2, 0, 157, 11, 2, 7, 0, 3, 2, 0, 157, 1, 1, 1, 3, 2, 0, 11, 1, 1]), (20, [23, 5], [30, -4001, -1, 0, 0, -2, 0, 0]), (24, [0, 2], [])], [(23, 6, 0, 0)], [(21, 6, 0, 0), (19, 6, 0, 0), (11, 6, 0, 0)])
theorem oo_Mo_styleTokens_152 {kA : Nat → ClassId} : or_ok kA GG o_Mo_styleTokens_152 := by
  intro A ta ws vs hD hth hl hk hds hf
  have hl : vs.length = 23 := hl
  have hk : ∀ q ∈ ([(0, (2, 0, 0, [150])), (2, (2, 0, 0, [150])), (5, (0, 0, 1999, [])), (6, (0, 0, 4001, [])), (7, (0, 0, 255, [])), (8, (0, 32, 32, [])), (9, (0, 0, 255, [])), (10, (0, 10, 10, [])), (11, (0, 0, 4001, [])), (12, (0, 123, 123, [])), (19, (0, 0, 4001, [])), (20, (0, 123, 123, [])), (21, (0, 0, 4001, []))] : List (Nat × tv_T)), tv_ok ta q.2 (n_v vs q.1) := hk
  obtain ⟨t0, hk⟩ := List.forall_mem_cons.mp hk
  have t0 : tv_ok ta (2, 0, 0, [150]) (n_v vs 0) := t0
  have r0 : ta (v_ad (n_v vs 0)) = some 150 := tv_rg t0
  obtain ⟨t2, hk⟩ := List.forall_mem_cons.mp hk
  have t2 : tv_ok ta (2, 0, 0, [150]) (n_v vs 2) := t2
  have r2 : ta (v_ad (n_v vs 2)) = some 150 := tv_rg t2
  obtain ⟨t5, hk⟩ := List.forall_mem_cons.mp hk
  have t5 : tv_ok ta (0, 0, 1999, []) (n_v vs 5) := t5
  have k5 : 0 ≤ v_iv (n_v vs 5) ∧ v_iv (n_v vs 5) ≤ 1999 := tv_rng t5
  obtain ⟨t6, hk⟩ := List.forall_mem_cons.mp hk
  have t6 : tv_ok ta (0, 0, 4001, []) (n_v vs 6) := t6
  have k6 : 0 ≤ v_iv (n_v vs 6) ∧ v_iv (n_v vs 6) ≤ 4001 := tv_rng t6
  obtain ⟨t7, hk⟩ := List.forall_mem_cons.mp hk
  have t7 : tv_ok ta (0, 0, 255, []) (n_v vs 7) := t7
  have k7 : 0 ≤ v_iv (n_v vs 7) ∧ v_iv (n_v vs 7) ≤ 255 := tv_rng t7
  obtain ⟨t8, hk⟩ := List.forall_mem_cons.mp hk
  have t8 : tv_ok ta (0, 32, 32, []) (n_v vs 8) := t8
  have k8 : 32 ≤ v_iv (n_v vs 8) ∧ v_iv (n_v vs 8) ≤ 32 := tv_rng t8
  obtain ⟨t9, hk⟩ := List.forall_mem_cons.mp hk
  have t9 : tv_ok ta (0, 0, 255, []) (n_v vs 9) := t9
  have k9 : 0 ≤ v_iv (n_v vs 9) ∧ v_iv (n_v vs 9) ≤ 255 := tv_rng t9
  obtain ⟨t10, hk⟩ := List.forall_mem_cons.mp hk
  have t10 : tv_ok ta (0, 10, 10, []) (n_v vs 10) := t10
  have k10 : 10 ≤ v_iv (n_v vs 10) ∧ v_iv (n_v vs 10) ≤ 10 := tv_rng t10
  obtain ⟨t11, hk⟩ := List.forall_mem_cons.mp hk
  have t11 : tv_ok ta (0, 0, 4001, []) (n_v vs 11) := t11
  have k11 : 0 ≤ v_iv (n_v vs 11) ∧ v_iv (n_v vs 11) ≤ 4001 := tv_rng t11
  obtain ⟨t12, hk⟩ := List.forall_mem_cons.mp hk
  have t12 : tv_ok ta (0, 123, 123, []) (n_v vs 12) := t12
  have k12 : 123 ≤ v_iv (n_v vs 12) ∧ v_iv (n_v vs 12) ≤ 123 := tv_rng t12
  obtain ⟨t19, hk⟩ := List.forall_mem_cons.mp hk
  have t19 : tv_ok ta (0, 0, 4001, []) (n_v vs 19) := t19
  have k19 : 0 ≤ v_iv (n_v vs 19) ∧ v_iv (n_v vs 19) ≤ 4001 := tv_rng t19
  obtain ⟨t20, hk⟩ := List.forall_mem_cons.mp hk
  have t20 : tv_ok ta (0, 123, 123, []) (n_v vs 20) := t20
  have k20 : 123 ≤ v_iv (n_v vs 20) ∧ v_iv (n_v vs 20) ≤ 123 := tv_rng t20
  obtain ⟨t21, hk⟩ := List.forall_mem_cons.mp hk
  have t21 : tv_ok ta (0, 0, 4001, []) (n_v vs 21) := t21
  have k21 : 0 ≤ v_iv (n_v vs 21) ∧ v_iv (n_v vs 21) ≤ 4001 := tv_rng t21
  have hds : ∀ q ∈ ([(21, 6, 0, 0), (19, 6, 0, 0), (11, 6, 0, 0)] : List of_T), n_iv vs q.2.1 + q.2.2.1 ≤ n_iv vs q.1 ∧ n_iv vs q.1 ≤ n_iv vs q.2.1 + q.2.2.2 := hds
  obtain ⟨d0, hds⟩ := List.forall_mem_cons.mp hds
  have d0 : v_iv (n_v vs 6) + 0 ≤ v_iv (n_v vs 21) ∧ v_iv (n_v vs 21) ≤ v_iv (n_v vs 6) + 0 := d0
  obtain ⟨d1, hds⟩ := List.forall_mem_cons.mp hds
  have d1 : v_iv (n_v vs 6) + 0 ≤ v_iv (n_v vs 19) ∧ v_iv (n_v vs 19) ≤ v_iv (n_v vs 6) + 0 := d1
  obtain ⟨d2, hds⟩ := List.forall_mem_cons.mp hds
  have d2 : v_iv (n_v vs 6) + 0 ≤ v_iv (n_v vs 11) ∧ v_iv (n_v vs 11) ≤ v_iv (n_v vs 6) + 0 := d2
  have hf : fc_ok [(20, [2, 5], [50, 2, 0, 157, 11, 2, 7, 0, 3, 2, 0, 157, 1, 1, 1, 3, 2, 0, 11, 1, 1]), (20, [21, 5], [30, -4001, -1, 0, 0, -2, 0, 0]), (24, [0, 2], []), (7, [12, 20], [0]), (20, [2, 5], [50, 2, 0, 157, 11, 2, 7, 0, 3, 2, 0, 157, 1, 1, 1, 3, 2, 0, 11, 1, 1]), (20, [19, 5], [30, -4001, -1, 0, 0, -2, 0, 0]), (8, [12], [3]), (9, [5, 2], [11]), (20, [5, 2, 12], [50, 1, 1, 1010, 1001, 4, 11, 0, 6, 4, 2, 1, 0, 0, 1, 2, 1, 10, 1, 2, 1, 2, 9, 5, 3, 1, 1, 1, 0, 0, 256]), (20, [2, 5, 12], [50, 1, 0, 10, 4, 7, 0, 3, 2, 0, 10, 1, 1, 1, 2, 1, 2, 0, -1]), (20, [2], [50, 2, 0, 157, 11, 0, 3, 2, 0, 157, 2, 0, 11]), (20, [11, 2], [30, -4001, -1, 0, 0, -2, 1, 11]), (7, [9, 10], [1]), (20, [5, 2, 9], [50, 1, 1, 1010, 1001, 4, 11, 0, 6, 4, 2, 1, 0, 0, 1, 2, 1, 10, 1, 2, 1, 2, 9, 5, 3, 1, 1, 1, 0, 0, 256]), (20, [2, 5, 9], [50, 1, 0, 10, 4, 7, 0, 3, 2, 0, 10, 1, 1, 1, 2, 1, 2, 0, -1]), (7, [7, 8], [1]), (20, [5, 2, 7], [50, 1, 1, 1010, 1001, 4, 11, 0, 6, 4, 2, 1, 0, 0, 1, 2, 1, 10, 1, 2, 1, 2, 9, 5, 3, 1, 1, 1, 0, 0, 256]), (20, [2, 5, 7], [50, 1, 0, 10, 4, 7, 0, 3, 2, 0, 10, 1, 1, 1, 2, 1, 2, 0, -1]), (20, [2], [50, 2, 0, 157, 11, 0, 3, 2, 0, 157, 2, 0, 11]), (20, [6, 2], [30, -4001, -1, 0, 0, -2, 1, 11])] ta ws vs := hf
  obtain ⟨f0, hf⟩ := fc_un (by decide) hf
  have f0 : (w_fi ws (n_v vs 2) 157 ≤ v_iv (n_v vs 5)) ∧ (w_fi ws (n_v vs 2) 11 = v_iv (n_v vs 5)) := f0
  obtain ⟨f1, hf⟩ := fc_un (by decide) hf
  have f1 : (-1) * v_iv (n_v vs 21) + ((-2) * v_iv (n_v vs 5) + 0) ≤ (-4001) := f1
  obtain ⟨f2, hf⟩ := fc_un (by decide) hf
  have f2 : n_v vs 0 = n_v vs 2 := f2
  obtain ⟨f3, hf⟩ := fc_un (by decide) hf
  have f3 : v_iv (n_v vs 12) = v_iv (n_v vs 20) := f3
  obtain ⟨f4, hf⟩ := fc_un (by decide) hf
  have f4 : (w_fi ws (n_v vs 2) 157 ≤ v_iv (n_v vs 5)) ∧ (w_fi ws (n_v vs 2) 11 = v_iv (n_v vs 5)) := f4
  obtain ⟨f5, hf⟩ := fc_un (by decide) hf
  have f5 : (-1) * v_iv (n_v vs 19) + ((-2) * v_iv (n_v vs 5) + 0) ≤ (-4001) := f5
  obtain ⟨f6, hf⟩ := fc_un (by decide) hf
  have f6 : 0 ≤ v_iv (n_v vs 12) := f6
  obtain ⟨f7, hf⟩ := fc_un (by decide) hf
  have f7 : n_v vs 5 = w_fd ws (v_ad (n_v vs 2)) 11 := f7
  obtain ⟨f8, hf⟩ := fc_un (by decide) hf
  have f8 : ((v_iv (n_v vs 5) + 1) ≤ w_fi ws (n_v vs 2) 10) → (v_iv (n_v vs 12) = (w_ei ws (w_ar ws (n_v vs 2) 1) (v_iv (n_v vs 5)) % 256)) := f8
  obtain ⟨f9, hf⟩ := fc_un (by decide) hf
  have f9 : (w_fi ws (n_v vs 2) 10 ≤ v_iv (n_v vs 5)) → (v_iv (n_v vs 12) = (-1)) := f9
  obtain ⟨f10, hf⟩ := fc_un (by decide) hf
  have f10 : w_fi ws (n_v vs 2) 157 ≤ w_fi ws (n_v vs 2) 11 := f10
  obtain ⟨f11, hf⟩ := fc_un (by decide) hf
  have f11 : (-1) * v_iv (n_v vs 11) + ((-2) * w_fi ws (n_v vs 2) 11 + 0) ≤ (-4001) := f11
  obtain ⟨f12, hf⟩ := fc_un (by decide) hf
  have f12 : v_iv (n_v vs 9) ≠ v_iv (n_v vs 10) := f12
  obtain ⟨f13, hf⟩ := fc_un (by decide) hf
  have f13 : ((v_iv (n_v vs 5) + 1) ≤ w_fi ws (n_v vs 2) 10) → (v_iv (n_v vs 9) = (w_ei ws (w_ar ws (n_v vs 2) 1) (v_iv (n_v vs 5)) % 256)) := f13
  obtain ⟨f14, hf⟩ := fc_un (by decide) hf
  have f14 : (w_fi ws (n_v vs 2) 10 ≤ v_iv (n_v vs 5)) → (v_iv (n_v vs 9) = (-1)) := f14
  obtain ⟨f15, hf⟩ := fc_un (by decide) hf
  have f15 : v_iv (n_v vs 7) ≠ v_iv (n_v vs 8) := f15
  obtain ⟨f16, hf⟩ := fc_un (by decide) hf
  have f16 : ((v_iv (n_v vs 5) + 1) ≤ w_fi ws (n_v vs 2) 10) → (v_iv (n_v vs 7) = (w_ei ws (w_ar ws (n_v vs 2) 1) (v_iv (n_v vs 5)) % 256)) := f16
  obtain ⟨f17, hf⟩ := fc_un (by decide) hf
  have f17 : (w_fi ws (n_v vs 2) 10 ≤ v_iv (n_v vs 5)) → (v_iv (n_v vs 7) = (-1)) := f17
  obtain ⟨f18, hf⟩ := fc_un (by decide) hf
  have f18 : w_fi ws (n_v vs 2) 157 ≤ w_fi ws (n_v vs 2) 11 := f18
  obtain ⟨f19, hf⟩ := fc_un (by decide) hf
  have f19 : (-1) * v_iv (n_v vs 6) + ((-2) * w_fi ws (n_v vs 2) 11 + 0) ≤ (-4001) := f19
  have q2 : n_v vs 2 = n_v vs 0 := f2.symm
  rw [q2] at f0
  rw [q2] at f4
  rw [q2] at f7
  rw [q2] at f8
  rw [q2] at f9
  rw [q2] at f10
  rw [q2] at f11
  rw [q2] at f13
  rw [q2] at f14
  rw [q2] at f16
  rw [q2] at f17
  rw [q2] at f18
  rw [q2] at f19
  have cr_0_1 : ta (w_ar ws (n_v vs 0) 1) = some 151 := tv_rg (th_fd hD hth r0 (g := GG_150) rfl (k := 1) (t := (2, 0, 0, [151])) rfl rfl)
  have g7 : v_iv (n_v vs 5) = w_fi ws (n_v vs 0) 11 := congrArg v_iv f7
  have hK_0_1 : ∀ j : Int, 0 ≤ j → j < 2000 → (-128) ≤ w_ei ws (w_ar ws (n_v vs 0) 1) j ∧ w_ei ws (w_ar ws (n_v vs 0) 1) j ≤ 127 := fun j h0 h1 => th_el hD hth cr_0_1 (kd := 1) (n := 2000) (m := 2000) (lo := (-128)) (hi := 127) (rs := []) (L := []) rfl (by decide) (j := j.toNat) (by omega)
  have kz_0_10 : 0 ≤ w_fi ws (n_v vs 0) 10 ∧ w_fi ws (n_v vs 0) 10 ≤ 2000 := tv_rng (th_fd hD hth r0 (g := GG_150) rfl (k := 10) (t := (0, 0, 2000, [])) rfl rfl)
  have kz_0_11 : 0 ≤ w_fi ws (n_v vs 0) 11 ∧ w_fi ws (n_v vs 0) 11 ≤ 2000 := tv_rng (th_fd hD hth r0 (g := GG_150) rfl (k := 11) (t := (0, 0, 2000, [])) rfl rfl)
  have kz_0_157 : 0 ≤ w_fi ws (n_v vs 0) 157 ∧ w_fi ws (n_v vs 0) 157 ≤ 2010 := tv_rng (th_fd hD hth r0 (g := GG_150) rfl (k := 157) (t := (0, 0, 2010, [])) rfl rfl)
  obtain ⟨x, ex, hx⟩ := iv_ex (ta := ta) (lo := 0) (hi := 4001) (z := 0 + (1 * v_iv (n_v vs 6) + 0)) (by omega) (by omega) (by decide) (by decide)
  have ex2 : v_iv (Value.int x) = 0 + (1 * v_iv (n_v vs 6) + 0) := ex
  have ex3 : 0 ≤ v_iv (Value.int x) ∧ v_iv (Value.int x) ≤ 4001 := tv_rng hx
  have e_0 : n_v (vs ++ [Value.int x]) 0 = n_v vs 0 := n_v_old (by rw [hl]; decide)
  have e_2 : n_v (vs ++ [Value.int x]) 2 = n_v vs 2 := n_v_old (by rw [hl]; decide)
  have e_5 : n_v (vs ++ [Value.int x]) 5 = n_v vs 5 := n_v_old (by rw [hl]; decide)
  have e_23 : n_v (vs ++ [Value.int x]) 23 = Value.int x := n_v_new hl
  have nf0 : fc_1 (20, [2, 5], [50, 2, 0, 157, 11, 2, 7, 0, 3, 2, 0, 157, 1, 1, 1, 3, 2, 0, 11, 1, 1]) ws (vs ++ [Value.int x]) := by
    refine ⟨fun n hn => ?_, ?_⟩
    · have hn : n ∈ [2, 5] := hn
      rw [List.length_append, hl]
      simp only [List.mem_cons, List.not_mem_nil, or_false] at hn
      show n < 23 + 1; omega
    · show (w_fi ws (n_v (vs ++ [Value.int x]) 2) 157 ≤ v_iv (n_v (vs ++ [Value.int x]) 5)) ∧ (w_fi ws (n_v (vs ++ [Value.int x]) 2) 11 = v_iv (n_v (vs ++ [Value.int x]) 5))
      rw [e_2]
      rw [e_5]
      rw [q2]
      first | omega | grind
  have nf1 : fc_1 (20, [23, 5], [30, -4001, -1, 0, 0, -2, 0, 0]) ws (vs ++ [Value.int x]) := by
    refine ⟨fun n hn => ?_, ?_⟩
    · have hn : n ∈ [23, 5] := hn
      rw [List.length_append, hl]
      simp only [List.mem_cons, List.not_mem_nil, or_false] at hn
      show n < 23 + 1; omega
    · show (-1) * v_iv (n_v (vs ++ [Value.int x]) 23) + ((-2) * v_iv (n_v (vs ++ [Value.int x]) 5) + 0) ≤ (-4001)
      rw [e_5]
      rw [e_23]
      omega
  have nf2 : fc_1 (24, [0, 2], []) ws (vs ++ [Value.int x]) := by
    refine ⟨fun n hn => ?_, ?_⟩
    · have hn : n ∈ [0, 2] := hn
      rw [List.length_append, hl]
      simp only [List.mem_cons, List.not_mem_nil, or_false] at hn
      show n < 23 + 1; omega
    · show n_v (vs ++ [Value.int x]) 0 = n_v (vs ++ [Value.int x]) 2
      first | rfl | simp only [e_0, e_2, q2]
  obtain ⟨x0, e0, _, _⟩ := tv_int t6 rfl
  have e1 : v_iv (n_v vs 6) = x0.toInt := by rw [e0]; rfl
  have ho : sy_ofs (vs ++ [Value.int x]) (23, 6, 0, 0) := by
    refine ⟨x, x0, by rw [List.getElem?_append_right (by rw [hl]; decide), hl]; rfl, ?_, ?_, ?_⟩
    · rw [List.getElem?_append_left (by rw [hl]; decide)]; exact n_v_some (by rw [hl]; decide) e0
    · show x0.toInt + 0 ≤ x.toInt; omega
    · show x.toInt ≤ x0.toInt + 0; omega
  exact ⟨fun q hq => (by cases hq), [Value.int x], ag_one hx, List.forall_mem_cons.mpr ⟨⟨by decide, nf0⟩, List.forall_mem_cons.mpr ⟨⟨by decide, nf1⟩, List.forall_mem_cons.mpr ⟨⟨by decide, nf2⟩, (fun _ h => (by cases h))⟩⟩⟩, List.forall_mem_cons.mpr ⟨ho, (fun _ h => (by cases h))⟩⟩
def o_Mo_styleTokens_153 : or_T := (334, 22, [(0, (2, 0, 0, [150])), (2, (2, 0, 0, [150])), (5, (0, 0, 1999, [])), (6, (0, 0, 4001, [])), (7, (0, 0, 255, [])), (8, (0, 32, 32, [])), (9, (0, 0, 255, [])), (10, (0, 10, 10, [])), (11, (0, 0, 4001, [])), (12, (0, 125, 125, [])), (19, (0, 0, 4001, [])), (20, (0, 123, 123, [])), (21, (0, 125, 125, []))], [(7, [12, 21], [0]), (7, [12, 20], [1]), (20, [2, 5], [50, 2, 0, 157, 11, 2, 7, 0, 3, 2, 0, 157, 1, 1, 1, 3, 2, 0, 11, 1, 1]), (20, [19, 5], [30, -4001, -1, 0, 0, -2, 0, 0]), (24, [0, 2], []), (8, [12], [3]), (9, [5, 2], [11]), (20, [5, 2, 12], [50, 1, 1, 1010, 1001, 4, 11, 0, 6, 4, 2, 1, 0, 0, 1, 2, 1, 10, 1, 2, 1, 2, 9, 5, 3, 1, 1, 1, 0, 0, 256]), (20, [2, 5, 12], [50, 1, 0, 10, 4, 7, 0, 3, 2, 0, 10, 1, 1, 1, 2, 1, 2, 0, -1]), (20, [2], [50, 2, 0, 157, 11, 0, 3, 2, 0, 157, 2, 0, 11]), (20, [11, 2], [30, -4001, -1, 0, 0, -2, 1, 11]), (7, [9, 10], [1]), (20, [5, 2, 9], [50, 1, 1, 1010, 1001, 4, 11, 0, 6, 4, 2, 1, 0, 0, 1, 2, 1, 10, 1, 2, 1, 2, 9, 5, 3, 1, 1, 1, 0, 0, 256]), (20, [2, 5, 9], [50, 1, 0, 10, 4, 7, 0, 3, 2, 0, 10, 1, 1, 1, 2, 1, 2, 0, -1]), (7, [7, 8], [1]), (20, [5, 2, 7], [50, 1, 1, 1010, 1001, 4, 11, 0, 6, 4, 2, 1, 0, 0, 1, 2, 1, 10, 1, 2, 1, 2, 9, 5, 3, 1, 1, 1, 0, 0, 256]), (20, [2, 5, 7], [50, 1, 0, 10, 4, 7, 0, 3, 2, 0, 10, 1, 1, 1, 2, 1, 2, 0, -1]), (20, [2], [50, 2, 0, 157, 11, 0, 3, 2, 0, 157, 2, 0, 11]), (20, [6, 2], [30, -4001, -1, 0, 0, -2, 1, 11])], [], [(0, 0, 4001, [])], [(20, [2, 5], [50, 2, 0, 157, 11, 2, 7, 0, 3, 2, 0, 157, 1, 1, 1, 3, 2, 0, 11, 1, 1]), (20, [22, 5], [30, -4001, -1, 0, 0, -2, 0, 0]), (24, [0, 2], [])], [(22, 6, 0, 0)], [(19, 6, 0, 0), (11, 6, 0, 0)])
theorem oo_Mo_styleTokens_153 {kA : Nat → ClassId} : or_ok kA GG o_Mo_styleTokens_153 := by
  intro A ta ws vs hD hth hl hk hds hf
  have hl : vs.length = 22 := hl
  have hk : ∀ q ∈ ([(0, (2, 0, 0, [150])), (2, (2, 0, 0, [150])), (5, (0, 0, 1999, [])), (6, (0, 0, 4001, [])), (7, (0, 0, 255, [])), (8, (0, 32, 32, [])), (9, (0, 0, 255, [])), (10, (0, 10, 10, [])), (11, (0, 0, 4001, [])), (12, (0, 125, 125, [])), (19, (0, 0, 4001, [])), (20, (0, 123, 123, [])), (21, (0, 125, 125, []))] : List (Nat × tv_T)), tv_ok ta q.2 (n_v vs q.1) := hk
  obtain ⟨t0, hk⟩ := List.forall_mem_cons.mp hk
  have t0 : tv_ok ta (2, 0, 0, [150]) (n_v vs 0) := t0
  have r0 : ta (v_ad (n_v vs 0)) = some 150 := tv_rg t0
  obtain ⟨t2, hk⟩ := List.forall_mem_cons.mp hk
  have t2 : tv_ok ta (2, 0, 0, [150]) (n_v vs 2) := t2
  have r2 : ta (v_ad (n_v vs 2)) = some 150 := tv_rg t2
  obtain ⟨t5, hk⟩ := List.forall_mem_cons.mp hk
  have t5 : tv_ok ta (0, 0, 1999, []) (n_v vs 5) := t5
  have k5 : 0 ≤ v_iv (n_v vs 5) ∧ v_iv (n_v vs 5) ≤ 1999 := tv_rng t5
  obtain ⟨t6, hk⟩ := List.forall_mem_cons.mp hk
  have t6 : tv_ok ta (0, 0, 4001, []) (n_v vs 6) := t6
  have k6 : 0 ≤ v_iv (n_v vs 6) ∧ v_iv (n_v vs 6) ≤ 4001 := tv_rng t6
  obtain ⟨t7, hk⟩ := List.forall_mem_cons.mp hk
  have t7 : tv_ok ta (0, 0, 255, []) (n_v vs 7) := t7
  have k7 : 0 ≤ v_iv (n_v vs 7) ∧ v_iv (n_v vs 7) ≤ 255 := tv_rng t7
  obtain ⟨t8, hk⟩ := List.forall_mem_cons.mp hk
  have t8 : tv_ok ta (0, 32, 32, []) (n_v vs 8) := t8
  have k8 : 32 ≤ v_iv (n_v vs 8) ∧ v_iv (n_v vs 8) ≤ 32 := tv_rng t8
  obtain ⟨t9, hk⟩ := List.forall_mem_cons.mp hk
  have t9 : tv_ok ta (0, 0, 255, []) (n_v vs 9) := t9
  have k9 : 0 ≤ v_iv (n_v vs 9) ∧ v_iv (n_v vs 9) ≤ 255 := tv_rng t9
  obtain ⟨t10, hk⟩ := List.forall_mem_cons.mp hk
  have t10 : tv_ok ta (0, 10, 10, []) (n_v vs 10) := t10
  have k10 : 10 ≤ v_iv (n_v vs 10) ∧ v_iv (n_v vs 10) ≤ 10 := tv_rng t10
  obtain ⟨t11, hk⟩ := List.forall_mem_cons.mp hk
  have t11 : tv_ok ta (0, 0, 4001, []) (n_v vs 11) := t11
  have k11 : 0 ≤ v_iv (n_v vs 11) ∧ v_iv (n_v vs 11) ≤ 4001 := tv_rng t11
  obtain ⟨t12, hk⟩ := List.forall_mem_cons.mp hk
  have t12 : tv_ok ta (0, 125, 125, []) (n_v vs 12) := t12
  have k12 : 125 ≤ v_iv (n_v vs 12) ∧ v_iv (n_v vs 12) ≤ 125 := tv_rng t12
  obtain ⟨t19, hk⟩ := List.forall_mem_cons.mp hk
  have t19 : tv_ok ta (0, 0, 4001, []) (n_v vs 19) := t19
  have k19 : 0 ≤ v_iv (n_v vs 19) ∧ v_iv (n_v vs 19) ≤ 4001 := tv_rng t19
  obtain ⟨t20, hk⟩ := List.forall_mem_cons.mp hk
  have t20 : tv_ok ta (0, 123, 123, []) (n_v vs 20) := t20
  have k20 : 123 ≤ v_iv (n_v vs 20) ∧ v_iv (n_v vs 20) ≤ 123 := tv_rng t20
  obtain ⟨t21, hk⟩ := List.forall_mem_cons.mp hk
  have t21 : tv_ok ta (0, 125, 125, []) (n_v vs 21) := t21
  have k21 : 125 ≤ v_iv (n_v vs 21) ∧ v_iv (n_v vs 21) ≤ 125 := tv_rng t21
  have hds : ∀ q ∈ ([(19, 6, 0, 0), (11, 6, 0, 0)] : List of_T), n_iv vs q.2.1 + q.2.2.1 ≤ n_iv vs q.1 ∧ n_iv vs q.1 ≤ n_iv vs q.2.1 + q.2.2.2 := hds
  obtain ⟨d0, hds⟩ := List.forall_mem_cons.mp hds
  have d0 : v_iv (n_v vs 6) + 0 ≤ v_iv (n_v vs 19) ∧ v_iv (n_v vs 19) ≤ v_iv (n_v vs 6) + 0 := d0
  obtain ⟨d1, hds⟩ := List.forall_mem_cons.mp hds
  have d1 : v_iv (n_v vs 6) + 0 ≤ v_iv (n_v vs 11) ∧ v_iv (n_v vs 11) ≤ v_iv (n_v vs 6) + 0 := d1
  have hf : fc_ok [(7, [12, 21], [0]), (7, [12, 20], [1]), (20, [2, 5], [50, 2, 0, 157, 11, 2, 7, 0, 3, 2, 0, 157, 1, 1, 1, 3, 2, 0, 11, 1, 1]), (20, [19, 5], [30, -4001, -1, 0, 0, -2, 0, 0]), (24, [0, 2], []), (8, [12], [3]), (9, [5, 2], [11]), (20, [5, 2, 12], [50, 1, 1, 1010, 1001, 4, 11, 0, 6, 4, 2, 1, 0, 0, 1, 2, 1, 10, 1, 2, 1, 2, 9, 5, 3, 1, 1, 1, 0, 0, 256]), (20, [2, 5, 12], [50, 1, 0, 10, 4, 7, 0, 3, 2, 0, 10, 1, 1, 1, 2, 1, 2, 0, -1]), (20, [2], [50, 2, 0, 157, 11, 0, 3, 2, 0, 157, 2, 0, 11]), (20, [11, 2], [30, -4001, -1, 0, 0, -2, 1, 11]), (7, [9, 10], [1]), (20, [5, 2, 9], [50, 1, 1, 1010, 1001, 4, 11, 0, 6, 4, 2, 1, 0, 0, 1, 2, 1, 10, 1, 2, 1, 2, 9, 5, 3, 1, 1, 1, 0, 0, 256]), (20, [2, 5, 9], [50, 1, 0, 10, 4, 7, 0, 3, 2, 0, 10, 1, 1, 1, 2, 1, 2, 0, -1]), (7, [7, 8], [1]), (20, [5, 2, 7], [50, 1, 1, 1010, 1001, 4, 11, 0, 6, 4, 2, 1, 0, 0, 1, 2, 1, 10, 1, 2, 1, 2, 9, 5, 3, 1, 1, 1, 0, 0, 256]), (20, [2, 5, 7], [50, 1, 0, 10, 4, 7, 0, 3, 2, 0, 10, 1, 1, 1, 2, 1, 2, 0, -1]), (20, [2], [50, 2, 0, 157, 11, 0, 3, 2, 0, 157, 2, 0, 11]), (20, [6, 2], [30, -4001, -1, 0, 0, -2, 1, 11])] ta ws vs := hf
  obtain ⟨f0, hf⟩ := fc_un (by decide) hf
  have f0 : v_iv (n_v vs 12) = v_iv (n_v vs 21) := f0
  obtain ⟨f1, hf⟩ := fc_un (by decide) hf
  have f1 : v_iv (n_v vs 12) ≠ v_iv (n_v vs 20) := f1
  obtain ⟨f2, hf⟩ := fc_un (by decide) hf
  have f2 : (w_fi ws (n_v vs 2) 157 ≤ v_iv (n_v vs 5)) ∧ (w_fi ws (n_v vs 2) 11 = v_iv (n_v vs 5)) := f2
  obtain ⟨f3, hf⟩ := fc_un (by decide) hf
  have f3 : (-1) * v_iv (n_v vs 19) + ((-2) * v_iv (n_v vs 5) + 0) ≤ (-4001) := f3
  obtain ⟨f4, hf⟩ := fc_un (by decide) hf
  have f4 : n_v vs 0 = n_v vs 2 := f4
  obtain ⟨f5, hf⟩ := fc_un (by decide) hf
  have f5 : 0 ≤ v_iv (n_v vs 12) := f5
  obtain ⟨f6, hf⟩ := fc_un (by decide) hf
  have f6 : n_v vs 5 = w_fd ws (v_ad (n_v vs 2)) 11 := f6
  obtain ⟨f7, hf⟩ := fc_un (by decide) hf
  have f7 : ((v_iv (n_v vs 5) + 1) ≤ w_fi ws (n_v vs 2) 10) → (v_iv (n_v vs 12) = (w_ei ws (w_ar ws (n_v vs 2) 1) (v_iv (n_v vs 5)) % 256)) := f7
  obtain ⟨f8, hf⟩ := fc_un (by decide) hf
  have f8 : (w_fi ws (n_v vs 2) 10 ≤ v_iv (n_v vs 5)) → (v_iv (n_v vs 12) = (-1)) := f8
  obtain ⟨f9, hf⟩ := fc_un (by decide) hf
  have f9 : w_fi ws (n_v vs 2) 157 ≤ w_fi ws (n_v vs 2) 11 := f9
  obtain ⟨f10, hf⟩ := fc_un (by decide) hf
  have f10 : (-1) * v_iv (n_v vs 11) + ((-2) * w_fi ws (n_v vs 2) 11 + 0) ≤ (-4001) := f10
  obtain ⟨f11, hf⟩ := fc_un (by decide) hf
  have f11 : v_iv (n_v vs 9) ≠ v_iv (n_v vs 10) := f11
  obtain ⟨f12, hf⟩ := fc_un (by decide) hf
  have f12 : ((v_iv (n_v vs 5) + 1) ≤ w_fi ws (n_v vs 2) 10) → (v_iv (n_v vs 9) = (w_ei ws (w_ar ws (n_v vs 2) 1) (v_iv (n_v vs 5)) % 256)) := f12
  obtain ⟨f13, hf⟩ := fc_un (by decide) hf
  have f13 : (w_fi ws (n_v vs 2) 10 ≤ v_iv (n_v vs 5)) → (v_iv (n_v vs 9) = (-1)) := f13
  obtain ⟨f14, hf⟩ := fc_un (by decide) hf
  have f14 : v_iv (n_v vs 7) ≠ v_iv (n_v vs 8) := f14
  obtain ⟨f15, hf⟩ := fc_un (by decide) hf
  have f15 : ((v_iv (n_v vs 5) + 1) ≤ w_fi ws (n_v vs 2) 10) → (v_iv (n_v vs 7) = (w_ei ws (w_ar ws (n_v vs 2) 1) (v_iv (n_v vs 5)) % 256)) := f15
  obtain ⟨f16, hf⟩ := fc_un (by decide) hf
  have f16 : (w_fi ws (n_v vs 2) 10 ≤ v_iv (n_v vs 5)) → (v_iv (n_v vs 7) = (-1)) := f16
  obtain ⟨f17, hf⟩ := fc_un (by decide) hf
  have f17 : w_fi ws (n_v vs 2) 157 ≤ w_fi ws (n_v vs 2) 11 := f17
  obtain ⟨f18, hf⟩ := fc_un (by decide) hf
  have f18 : (-1) * v_iv (n_v vs 6) + ((-2) * w_fi ws (n_v vs 2) 11 + 0) ≤ (-4001) := f18
  have q2 : n_v vs 2 = n_v vs 0 := f4.symm
  rw [q2] at f2
  rw [q2] at f6
  rw [q2] at f7
  rw [q2] at f8
  rw [q2] at f9
  rw [q2] at f10
  rw [q2] at f12
  rw [q2] at f13
  rw [q2] at f15
  rw [q2] at f16
  rw [q2] at f17
  rw [q2] at f18
  have cr_0_1 : ta (w_ar ws (n_v vs 0) 1) = some 151 := tv_rg (th_fd hD hth r0 (g := GG_150) rfl (k := 1) (t := (2, 0, 0, [151])) rfl rfl)
  have g6 : v_iv (n_v vs 5) = w_fi ws (n_v vs 0) 11 := congrArg v_iv f6
  have hK_0_1 : ∀ j : Int, 0 ≤ j → j < 2000 → (-128) ≤ w_ei ws (w_ar ws (n_v vs 0) 1) j ∧ w_ei ws (w_ar ws (n_v vs 0) 1) j ≤ 127 := fun j h0 h1 => th_el hD hth cr_0_1 (kd := 1) (n := 2000) (m := 2000) (lo := (-128)) (hi := 127) (rs := []) (L := []) rfl (by decide) (j := j.toNat) (by omega)
  have kz_0_10 : 0 ≤ w_fi ws (n_v vs 0) 10 ∧ w_fi ws (n_v vs 0) 10 ≤ 2000 := tv_rng (th_fd hD hth r0 (g := GG_150) rfl (k := 10) (t := (0, 0, 2000, [])) rfl rfl)
  have kz_0_11 : 0 ≤ w_fi ws (n_v vs 0) 11 ∧ w_fi ws (n_v vs 0) 11 ≤ 2000 := tv_rng (th_fd hD hth r0 (g := GG_150) rfl (k := 11) (t := (0, 0, 2000, [])) rfl rfl)
  have kz_0_157 : 0 ≤ w_fi ws (n_v vs 0) 157 ∧ w_fi ws (n_v vs 0) 157 ≤ 2010 := tv_rng (th_fd hD hth r0 (g := GG_150) rfl (k := 157) (t := (0, 0, 2010, [])) rfl rfl)
  obtain ⟨x, ex, hx⟩ := iv_ex (ta := ta) (lo := 0) (hi := 4001) (z := 0 + (1 * v_iv (n_v vs 6) + 0)) (by omega) (by omega) (by decide) (by decide)
  have ex2 : v_iv (Value.int x) = 0 + (1 * v_iv (n_v vs 6) + 0) := ex
  have ex3 : 0 ≤ v_iv (Value.int x) ∧ v_iv (Value.int x) ≤ 4001 := tv_rng hx
  have e_0 : n_v (vs ++ [Value.int x]) 0 = n_v vs 0 := n_v_old (by rw [hl]; decide)
  have e_2 : n_v (vs ++ [Value.int x]) 2 = n_v vs 2 := n_v_old (by rw [hl]; decide)
  have e_5 : n_v (vs ++ [Value.int x]) 5 = n_v vs 5 := n_v_old (by rw [hl]; decide)
  have e_22 : n_v (vs ++ [Value.int x]) 22 = Value.int x := n_v_new hl
  have nf0 : fc_1 (20, [2, 5], [50, 2, 0, 157, 11, 2, 7, 0, 3, 2, 0, 157, 1, 1, 1, 3, 2, 0, 11, 1, 1]) ws (vs ++ [Value.int x]) := by
    refine ⟨fun n hn => ?_, ?_⟩
    · have hn : n ∈ [2, 5] := hn
      rw [List.length_append, hl]
      simp only [List.mem_cons, List.not_mem_nil, or_false] at hn
      show n < 22 + 1; omega
    · show (w_fi ws (n_v (vs ++ [Value.int x]) 2) 157 ≤ v_iv (n_v (vs ++ [Value.int x]) 5)) ∧ (w_fi ws (n_v (vs ++ [Value.int x]) 2) 11 = v_iv (n_v (vs ++ [Value.int x]) 5))
      rw [e_2]
      rw [e_5]
      rw [q2]
      first | omega | grind
  have nf1 : fc_1 (20, [22, 5], [30, -4001, -1, 0, 0, -2, 0, 0]) ws (vs ++ [Value.int x]) := by
    refine ⟨fun n hn => ?_, ?_⟩
    · have hn : n ∈ [22, 5] := hn
      rw [List.length_append, hl]
      simp only [List.mem_cons, List.not_mem_nil, or_false] at hn
      show n < 22 + 1; omega
    · show (-1) * v_iv (n_v (vs ++ [Value.int x]) 22) + ((-2) * v_iv (n_v (vs ++ [Value.int x]) 5) + 0) ≤ (-4001)
      rw [e_5]
      rw [e_22]
      omega
  have nf2 : fc_1 (24, [0, 2], []) ws (vs ++ [Value.int x]) := by
    refine ⟨fun n hn => ?_, ?_⟩
    · have hn : n ∈ [0, 2] := hn
      rw [List.length_append, hl]
      simp only [List.mem_cons, List.not_mem_nil, or_false] at hn
      show n < 22 + 1; omega
    · show n_v (vs ++ [Value.int x]) 0 = n_v (vs ++ [Value.int x]) 2
      first | rfl | simp only [e_0, e_2, q2]
  obtain ⟨x0, e0, _, _⟩ := tv_int t6 rfl
  have e1 : v_iv (n_v vs 6) = x0.toInt := by rw [e0]; rfl
  have ho : sy_ofs (vs ++ [Value.int x]) (22, 6, 0, 0) := by
    refine ⟨x, x0, by rw [List.getElem?_append_right (by rw [hl]; decide), hl]; rfl, ?_, ?_, ?_⟩
    · rw [List.getElem?_append_left (by rw [hl]; decide)]; exact n_v_some (by rw [hl]; decide) e0
    · show x0.toInt + 0 ≤ x.toInt; omega
    · show x.toInt ≤ x0.toInt + 0; omega
  exact ⟨fun q hq => (by cases hq), [Value.int x], ag_one hx, List.forall_mem_cons.mpr ⟨⟨by decide, nf0⟩, List.forall_mem_cons.mpr ⟨⟨by decide, nf1⟩, List.forall_mem_cons.mpr ⟨⟨by decide, nf2⟩, (fun _ h => (by cases h))⟩⟩⟩, List.forall_mem_cons.mpr ⟨ho, (fun _ h => (by cases h))⟩⟩
def o_Mo_styleTokens_154 : or_T := (339, 24, [(0, (2, 0, 0, [150])), (2, (2, 0, 0, [150])), (5, (0, 0, 1999, [])), (6, (0, 0, 4001, [])), (7, (0, 0, 255, [])), (8, (0, 32, 32, [])), (9, (0, 0, 255, [])), (10, (0, 10, 10, [])), (11, (0, 0, 4001, [])), (12, (0, 125, 125, [])), (19, (0, 0, 4001, [])), (20, (0, 123, 123, [])), (21, (0, 125, 125, [])), (22, (0, 0, 4001, []))], [(20, [2, 5], [50, 2, 0, 157, 11, 2, 7, 0, 3, 2, 0, 157, 1, 1, 1, 3, 2, 0, 11, 1, 1]), (20, [22, 5], [30, -4001, -1, 0, 0, -2, 0, 0]), (24, [0, 2], []), (7, [12, 21], [0]), (7, [12, 20], [1]), (20, [2, 5], [50, 2, 0, 157, 11, 2, 7, 0, 3, 2, 0, 157, 1, 1, 1, 3, 2, 0, 11, 1, 1]), (20, [19, 5], [30, -4001, -1, 0, 0, -2, 0, 0]), (8, [12], [3]), (9, [5, 2], [11]), (20, [5, 2, 12], [50, 1, 1, 1010, 1001, 4, 11, 0, 6, 4, 2, 1, 0, 0, 1, 2, 1, 10, 1, 2, 1, 2, 9, 5, 3, 1, 1, 1, 0, 0, 256]), (20, [2, 5, 12], [50, 1, 0, 10, 4, 7, 0, 3, 2, 0, 10, 1, 1, 1, 2, 1, 2, 0, -1]), (20, [2], [50, 2, 0, 157, 11, 0, 3, 2, 0, 157, 2, 0, 11]), (20, [11, 2], [30, -4001, -1, 0, 0, -2, 1, 11]), (7, [9, 10], [1]), (20, [5, 2, 9], [50, 1, 1, 1010, 1001, 4, 11, 0, 6, 4, 2, 1, 0, 0, 1, 2, 1, 10, 1, 2, 1, 2, 9, 5, 3, 1, 1, 1, 0, 0, 256]), (20, [2, 5, 9], [50, 1, 0, 10, 4, 7, 0, 3, 2, 0, 10, 1, 1, 1, 2, 1, 2, 0, -1]), (7, [7, 8], [1]), (20, [5, 2, 7], [50, 1, 1, 1010, 1001, 4, 11, 0, 6, 4, 2, 1, 0, 0, 1, 2, 1, 10, 1, 2, 1, 2, 9, 5, 3, 1, 1, 1, 0, 0, 256]), (20, [2, 5, 7], [50, 1, 0, 10, 4, 7, 0, 3, 2, 0, 10, 1, 1, 1, 2, 1, 2, 0, -1]), (20, [2], [50, 2, 0, 157, 11, 0, 3, 2, 0, 157, 2, 0, 11]), (20, [6, 2], [30, -4001, -1, 0, 0, -2, 1, 11])], [], [(0, 0, 4001, [])], [(20, [2, 5], [50, 2, 0, 157, 11, 2, 7, 0, 3, 2, 0, 157, 1, 1, 1, 3, 2, 0, 11, 1, 1]), (20, [24, 5], [30, -4001, -1, 0, 0, -2, 0, 0]), (24, [0, 2], [])], [(24, 6, 0, 0)], [(22, 6, 0, 0), (19, 6, 0, 0), (11, 6, 0, 0)])
theorem oo_Mo_styleTokens_154 {kA : Nat → ClassId} : or_ok kA GG o_Mo_styleTokens_154 := by
  intro A ta ws vs hD hth hl hk hds hf
  have hl : vs.length = 24 := hl
  have hk : ∀ q ∈ ([(0, (2, 0, 0, [150])), (2, (2, 0, 0, [150])), (5, (0, 0, 1999, [])), (6, (0, 0, 4001, [])), (7, (0, 0, 255, [])), (8, (0, 32, 32, [])), (9, (0, 0, 255, [])), (10, (0, 10, 10, [])), (11, (0, 0, 4001, [])), (12, (0, 125, 125, [])), (19, (0, 0, 4001, [])), (20, (0, 123, 123, [])), (21, (0, 125, 125, [])), (22, (0, 0, 4001, []))] : List (Nat × tv_T)), tv_ok ta q.2 (n_v vs q.1) := hk
  obtain ⟨t0, hk⟩ := List.forall_mem_cons.mp hk
  have t0 : tv_ok ta (2, 0, 0, [150]) (n_v vs 0) := t0
  have r0 : ta (v_ad (n_v vs 0)) = some 150 := tv_rg t0
  obtain ⟨t2, hk⟩ := List.forall_mem_cons.mp hk
  have t2 : tv_ok ta (2, 0, 0, [150]) (n_v vs 2) := t2
  have r2 : ta (v_ad (n_v vs 2)) = some 150 := tv_rg t2
  obtain ⟨t5, hk⟩ := List.forall_mem_cons.mp hk
  have t5 : tv_ok ta (0, 0, 1999, []) (n_v vs 5) := t5
  have k5 : 0 ≤ v_iv (n_v vs 5) ∧ v_iv (n_v vs 5) ≤ 1999 := tv_rng t5
  obtain ⟨t6, hk⟩ := List.forall_mem_cons.mp hk
  have t6 : tv_ok ta (0, 0, 4001, []) (n_v vs 6) := t6
  have k6 : 0 ≤ v_iv (n_v vs 6) ∧ v_iv (n_v vs 6) ≤ 4001 := tv_rng t6
  obtain ⟨t7, hk⟩ := List.forall_mem_cons.mp hk
  have t7 : tv_ok ta (0, 0, 255, []) (n_v vs 7) := t7
  have k7 : 0 ≤ v_iv (n_v vs 7) ∧ v_iv (n_v vs 7) ≤ 255 := tv_rng t7
  obtain ⟨t8, hk⟩ := List.forall_mem_cons.mp hk
  have t8 : tv_ok ta (0, 32, 32, []) (n_v vs 8) := t8
  have k8 : 32 ≤ v_iv (n_v vs 8) ∧ v_iv (n_v vs 8) ≤ 32 := tv_rng t8
  obtain ⟨t9, hk⟩ := List.forall_mem_cons.mp hk
  have t9 : tv_ok ta (0, 0, 255, []) (n_v vs 9) := t9
  have k9 : 0 ≤ v_iv (n_v vs 9) ∧ v_iv (n_v vs 9) ≤ 255 := tv_rng t9
  obtain ⟨t10, hk⟩ := List.forall_mem_cons.mp hk
  have t10 : tv_ok ta (0, 10, 10, []) (n_v vs 10) := t10
  have k10 : 10 ≤ v_iv (n_v vs 10) ∧ v_iv (n_v vs 10) ≤ 10 := tv_rng t10
  obtain ⟨t11, hk⟩ := List.forall_mem_cons.mp hk
  have t11 : tv_ok ta (0, 0, 4001, []) (n_v vs 11) := t11
  have k11 : 0 ≤ v_iv (n_v vs 11) ∧ v_iv (n_v vs 11) ≤ 4001 := tv_rng t11
  obtain ⟨t12, hk⟩ := List.forall_mem_cons.mp hk
  have t12 : tv_ok ta (0, 125, 125, []) (n_v vs 12) := t12
  have k12 : 125 ≤ v_iv (n_v vs 12) ∧ v_iv (n_v vs 12) ≤ 125 := tv_rng t12
  obtain ⟨t19, hk⟩ := List.forall_mem_cons.mp hk
  have t19 : tv_ok ta (0, 0, 4001, []) (n_v vs 19) := t19
  have k19 : 0 ≤ v_iv (n_v vs 19) ∧ v_iv (n_v vs 19) ≤ 4001 := tv_rng t19
  obtain ⟨t20, hk⟩ := List.forall_mem_cons.mp hk
  have t20 : tv_ok ta (0, 123, 123, []) (n_v vs 20) := t20
  have k20 : 123 ≤ v_iv (n_v vs 20) ∧ v_iv (n_v vs 20) ≤ 123 := tv_rng t20
  obtain ⟨t21, hk⟩ := List.forall_mem_cons.mp hk
  have t21 : tv_ok ta (0, 125, 125, []) (n_v vs 21) := t21
  have k21 : 125 ≤ v_iv (n_v vs 21) ∧ v_iv (n_v vs 21) ≤ 125 := tv_rng t21
  obtain ⟨t22, hk⟩ := List.forall_mem_cons.mp hk
  have t22 : tv_ok ta (0, 0, 4001, []) (n_v vs 22) := t22
  have k22 : 0 ≤ v_iv (n_v vs 22) ∧ v_iv (n_v vs 22) ≤ 4001 := tv_rng t22
  have hds : ∀ q ∈ ([(22, 6, 0, 0), (19, 6, 0, 0), (11, 6, 0, 0)] : List of_T), n_iv vs q.2.1 + q.2.2.1 ≤ n_iv vs q.1 ∧ n_iv vs q.1 ≤ n_iv vs q.2.1 + q.2.2.2 := hds
  obtain ⟨d0, hds⟩ := List.forall_mem_cons.mp hds
  have d0 : v_iv (n_v vs 6) + 0 ≤ v_iv (n_v vs 22) ∧ v_iv (n_v vs 22) ≤ v_iv (n_v vs 6) + 0 := d0
  obtain ⟨d1, hds⟩ := List.forall_mem_cons.mp hds
  have d1 : v_iv (n_v vs 6) + 0 ≤ v_iv (n_v vs 19) ∧ v_iv (n_v vs 19) ≤ v_iv (n_v vs 6) + 0 := d1
  obtain ⟨d2, hds⟩ := List.forall_mem_cons.mp hds
  have d2 : v_iv (n_v vs 6) + 0 ≤ v_iv (n_v vs 11) ∧ v_iv (n_v vs 11) ≤ v_iv (n_v vs 6) + 0 := d2
  have hf : fc_ok [(20, [2, 5], [50, 2, 0, 157, 11, 2, 7, 0, 3, 2, 0, 157, 1, 1, 1, 3, 2, 0, 11, 1, 1]), (20, [22, 5], [30, -4001, -1, 0, 0, -2, 0, 0]), (24, [0, 2], []), (7, [12, 21], [0]), (7, [12, 20], [1]), (20, [2, 5], [50, 2, 0, 157, 11, 2, 7, 0, 3, 2, 0, 157, 1, 1, 1, 3, 2, 0, 11, 1, 1]), (20, [19, 5], [30, -4001, -1, 0, 0, -2, 0, 0]), (8, [12], [3]), (9, [5, 2], [11]), (20, [5, 2, 12], [50, 1, 1, 1010, 1001, 4, 11, 0, 6, 4, 2, 1, 0, 0, 1, 2, 1, 10, 1, 2, 1, 2, 9, 5, 3, 1, 1, 1, 0, 0, 256]), (20, [2, 5, 12], [50, 1, 0, 10, 4, 7, 0, 3, 2, 0, 10, 1, 1, 1, 2, 1, 2, 0, -1]), (20, [2], [50, 2, 0, 157, 11, 0, 3, 2, 0, 157, 2, 0, 11]), (20, [11, 2], [30, -4001, -1, 0, 0, -2, 1, 11]), (7, [9, 10], [1]), (20, [5, 2, 9], [50, 1, 1, 1010, 1001, 4, 11, 0, 6, 4, 2, 1, 0, 0, 1, 2, 1, 10, 1, 2, 1, 2, 9, 5, 3, 1, 1, 1, 0, 0, 256]), (20, [2, 5, 9], [50, 1, 0, 10, 4, 7, 0, 3, 2, 0, 10, 1, 1, 1, 2, 1, 2, 0, -1]), (7, [7, 8], [1]), (20, [5, 2, 7], [50, 1, 1, 1010, 1001, 4, 11, 0, 6, 4, 2, 1, 0, 0, 1, 2, 1, 10, 1, 2, 1, 2, 9, 5, 3, 1, 1, 1, 0, 0, 256]), (20, [2, 5, 7], [50, 1, 0, 10, 4, 7, 0, 3, 2, 0, 10, 1, 1, 1, 2, 1, 2, 0, -1]), (20, [2], [50, 2, 0, 157, 11, 0, 3, 2, 0, 157, 2, 0, 11]), (20, [6, 2], [30, -4001, -1, 0, 0, -2, 1, 11])] ta ws vs := hf
  obtain ⟨f0, hf⟩ := fc_un (by decide) hf
  have f0 : (w_fi ws (n_v vs 2) 157 ≤ v_iv (n_v vs 5)) ∧ (w_fi ws (n_v vs 2) 11 = v_iv (n_v vs 5)) := f0
  obtain ⟨f1, hf⟩ := fc_un (by decide) hf
  have f1 : (-1) * v_iv (n_v vs 22) + ((-2) * v_iv (n_v vs 5) + 0) ≤ (-4001) := f1
  obtain ⟨f2, hf⟩ := fc_un (by decide) hf
  have f2 : n_v vs 0 = n_v vs 2 := f2
  obtain ⟨f3, hf⟩ := fc_un (by decide) hf
  have f3 : v_iv (n_v vs 12) = v_iv (n_v vs 21) := f3
  obtain ⟨f4, hf⟩ := fc_un (by decide) hf
  have f4 : v_iv (n_v vs 12) ≠ v_iv (n_v vs 20) := f4
  obtain ⟨f5, hf⟩ := fc_un (by decide) hf
  have f5 : (w_fi ws (n_v vs 2) 157 ≤ v_iv (n_v vs 5)) ∧ (w_fi ws (n_v vs 2) 11 = v_iv (n_v vs 5)) := f5
  obtain ⟨f6, hf⟩ := fc_un (by decide) hf
  have f6 : (-1) * v_iv (n_v vs 19) + ((-2) * v_iv (n_v vs 5) + 0) ≤ (-4001) := f6
  obtain ⟨f7, hf⟩ := fc_un (by decide) hf
  have f7 : 0 ≤ v_iv (n_v vs 12) := f7
  obtain ⟨f8, hf⟩ := fc_un (by decide) hf
  have f8 : n_v vs 5 = w_fd ws (v_ad (n_v vs 2)) 11 := f8
  obtain ⟨f9, hf⟩ := fc_un (by decide) hf
  have f9 : ((v_iv (n_v vs 5) + 1) ≤ w_fi ws (n_v vs 2) 10) → (v_iv (n_v vs 12) = (w_ei ws (w_ar ws (n_v vs 2) 1) (v_iv (n_v vs 5)) % 256)) := f9
  obtain ⟨f10, hf⟩ := fc_un (by decide) hf
  have f10 : (w_fi ws (n_v vs 2) 10 ≤ v_iv (n_v vs 5)) → (v_iv (n_v vs 12) = (-1)) := f10
  obtain ⟨f11, hf⟩ := fc_un (by decide) hf
  have f11 : w_fi ws (n_v vs 2) 157 ≤ w_fi ws (n_v vs 2) 11 := f11
  obtain ⟨f12, hf⟩ := fc_un (by decide) hf
  have f12 : (-1) * v_iv (n_v vs 11) + ((-2) * w_fi ws (n_v vs 2) 11 + 0) ≤ (-4001) := f12
  obtain ⟨f13, hf⟩ := fc_un (by decide) hf
  have f13 : v_iv (n_v vs 9) ≠ v_iv (n_v vs 10) := f13
  obtain ⟨f14, hf⟩ := fc_un (by decide) hf
  have f14 : ((v_iv (n_v vs 5) + 1) ≤ w_fi ws (n_v vs 2) 10) → (v_iv (n_v vs 9) = (w_ei ws (w_ar ws (n_v vs 2) 1) (v_iv (n_v vs 5)) % 256)) := f14
  obtain ⟨f15, hf⟩ := fc_un (by decide) hf
  have f15 : (w_fi ws (n_v vs 2) 10 ≤ v_iv (n_v vs 5)) → (v_iv (n_v vs 9) = (-1)) := f15
  obtain ⟨f16, hf⟩ := fc_un (by decide) hf
  have f16 : v_iv (n_v vs 7) ≠ v_iv (n_v vs 8) := f16
  obtain ⟨f17, hf⟩ := fc_un (by decide) hf
  have f17 : ((v_iv (n_v vs 5) + 1) ≤ w_fi ws (n_v vs 2) 10) → (v_iv (n_v vs 7) = (w_ei ws (w_ar ws (n_v vs 2) 1) (v_iv (n_v vs 5)) % 256)) := f17
  obtain ⟨f18, hf⟩ := fc_un (by decide) hf
  have f18 : (w_fi ws (n_v vs 2) 10 ≤ v_iv (n_v vs 5)) → (v_iv (n_v vs 7) = (-1)) := f18
  obtain ⟨f19, hf⟩ := fc_un (by decide) hf
  have f19 : w_fi ws (n_v vs 2) 157 ≤ w_fi ws (n_v vs 2) 11 := f19
  obtain ⟨f20, hf⟩ := fc_un (by decide) hf
  have f20 : (-1) * v_iv (n_v vs 6) + ((-2) * w_fi ws (n_v vs 2) 11 + 0) ≤ (-4001) := f20
  have q2 : n_v vs 2 = n_v vs 0 := f2.symm
  rw [q2] at f0
  rw [q2] at f5
  rw [q2] at f8
  rw [q2] at f9
  rw [q2] at f10
  rw [q2] at f11
  rw [q2] at f12
  rw [q2] at f14
  rw [q2] at f15
  rw [q2] at f17
  rw [q2] at f18
  rw [q2] at f19
  rw [q2] at f20
  have cr_0_1 : ta (w_ar ws (n_v vs 0) 1) = some 151 := tv_rg (th_fd hD hth r0 (g := GG_150) rfl (k := 1) (t := (2, 0, 0, [151])) rfl rfl)
  have g8 : v_iv (n_v vs 5) = w_fi ws (n_v vs 0) 11 := congrArg v_iv f8
  have hK_0_1 : ∀ j : Int, 0 ≤ j → j < 2000 → (-128) ≤ w_ei ws (w_ar ws (n_v vs 0) 1) j ∧ w_ei ws (w_ar ws (n_v vs 0) 1) j ≤ 127 := fun j h0 h1 => th_el hD hth cr_0_1 (kd := 1) (n := 2000) (m := 2000) (lo := (-128)) (hi := 127) (rs := []) (L := []) rfl (by decide) (j := j.toNat) (by omega)
  have kz_0_10 : 0 ≤ w_fi ws (n_v vs 0) 10 ∧ w_fi ws (n_v vs 0) 10 ≤ 2000 := tv_rng (th_fd hD hth r0 (g := GG_150) rfl (k := 10) (t := (0, 0, 2000, [])) rfl rfl)
  have kz_0_11 : 0 ≤ w_fi ws (n_v vs 0) 11 ∧ w_fi ws (n_v vs 0) 11 ≤ 2000 := tv_rng (th_fd hD hth r0 (g := GG_150) rfl (k := 11) (t := (0, 0, 2000, [])) rfl rfl)
  have kz_0_157 : 0 ≤ w_fi ws (n_v vs 0) 157 ∧ w_fi ws (n_v vs 0) 157 ≤ 2010 := tv_rng (th_fd hD hth r0 (g := GG_150) rfl (k := 157) (t := (0, 0, 2010, [])) rfl rfl)
  obtain ⟨x, ex, hx⟩ := iv_ex (ta := ta) (lo := 0) (hi := 4001) (z := 0 + (1 * v_iv (n_v vs 6) + 0)) (by omega) (by omega) (by decide) (by decide)
  have ex2 : v_iv (Value.int x) = 0 + (1 * v_iv (n_v vs 6) + 0) := ex
  have ex3 : 0 ≤ v_iv (Value.int x) ∧ v_iv (Value.int x) ≤ 4001 := tv_rng hx
  have e_0 : n_v (vs ++ [Value.int x]) 0 = n_v vs 0 := n_v_old (by rw [hl]; decide)
  have e_2 : n_v (vs ++ [Value.int x]) 2 = n_v vs 2 := n_v_old (by rw [hl]; decide)
  have e_5 : n_v (vs ++ [Value.int x]) 5 = n_v vs 5 := n_v_old (by rw [hl]; decide)
  have e_24 : n_v (vs ++ [Value.int x]) 24 = Value.int x := n_v_new hl
  have nf0 : fc_1 (20, [2, 5], [50, 2, 0, 157, 11, 2, 7, 0, 3, 2, 0, 157, 1, 1, 1, 3, 2, 0, 11, 1, 1]) ws (vs ++ [Value.int x]) := by
    refine ⟨fun n hn => ?_, ?_⟩
    · have hn : n ∈ [2, 5] := hn
      rw [List.length_append, hl]
      simp only [List.mem_cons, List.not_mem_nil, or_false] at hn
      show n < 24 + 1; omega
    · show (w_fi ws (n_v (vs ++ [Value.int x]) 2) 157 ≤ v_iv (n_v (vs ++ [Value.int x]) 5)) ∧ (w_fi ws (n_v (vs ++ [Value.int x]) 2) 11 = v_iv (n_v (vs ++ [Value.int x]) 5))
      rw [e_2]
      rw [e_5]
      rw [q2]
      first | omega | grind
  have nf1 : fc_1 (20, [24, 5], [30, -4001, -1, 0, 0, -2, 0, 0]) ws (vs ++ [Value.int x]) := by
    refine ⟨fun n hn => ?_, ?_⟩
    · have hn : n ∈ [24, 5] := hn
      rw [List.length_append, hl]
      simp only [List.mem_cons, List.not_mem_nil, or_false] at hn
      show n < 24 + 1; omega
    · show (-1) * v_iv (n_v (vs ++ [Value.int x]) 24) + ((-2) * v_iv (n_v (vs ++ [Value.int x]) 5) + 0) ≤ (-4001)
      rw [e_5]
      rw [e_24]
      omega
  have nf2 : fc_1 (24, [0, 2], []) ws (vs ++ [Value.int x]) := by
    refine ⟨fun n hn => ?_, ?_⟩
    · have hn : n ∈ [0, 2] := hn
      rw [List.length_append, hl]
      simp only [List.mem_cons, List.not_mem_nil, or_false] at hn
      show n < 24 + 1; omega
    · show n_v (vs ++ [Value.int x]) 0 = n_v (vs ++ [Value.int x]) 2
      first | rfl | simp only [e_0, e_2, q2]
  obtain ⟨x0, e0, _, _⟩ := tv_int t6 rfl
  have e1 : v_iv (n_v vs 6) = x0.toInt := by rw [e0]; rfl
  have ho : sy_ofs (vs ++ [Value.int x]) (24, 6, 0, 0) := by
    refine ⟨x, x0, by rw [List.getElem?_append_right (by rw [hl]; decide), hl]; rfl, ?_, ?_, ?_⟩
    · rw [List.getElem?_append_left (by rw [hl]; decide)]; exact n_v_some (by rw [hl]; decide) e0
    · show x0.toInt + 0 ≤ x.toInt; omega
    · show x.toInt ≤ x0.toInt + 0; omega
  exact ⟨fun q hq => (by cases hq), [Value.int x], ag_one hx, List.forall_mem_cons.mpr ⟨⟨by decide, nf0⟩, List.forall_mem_cons.mpr ⟨⟨by decide, nf1⟩, List.forall_mem_cons.mpr ⟨⟨by decide, nf2⟩, (fun _ h => (by cases h))⟩⟩⟩, List.forall_mem_cons.mpr ⟨ho, (fun _ h => (by cases h))⟩⟩
def o_Mo_styleTokens_155 : or_T := (339, 35, [(0, (2, 0, 0, [150])), (2, (2, 0, 0, [150])), (5, (0, 0, 1999, [])), (6, (0, 0, 4001, [])), (7, (0, 0, 255, [])), (8, (0, 32, 32, [])), (9, (0, 0, 255, [])), (10, (0, 10, 10, [])), (11, (0, 0, 4001, [])), (12, (0, 124, 255, [])), (19, (0, 0, 4001, [])), (20, (0, 123, 123, [])), (21, (0, 125, 125, [])), (22, (0, 40, 40, [])), (23, (0, 41, 41, [])), (24, (0, 43, 43, [])), (25, (0, 45, 45, [])), (26, (0, 42, 42, [])), (27, (0, 47, 47, [])), (28, (0, 60, 60, [])), (29, (0, 61, 61, [])), (30, (0, 62, 62, [])), (31, (0, 58, 58, [])), (32, (0, 44, 44, [])), (33, (0, 59, 59, []))], [(7, [12, 33], [1]), (7, [12, 32], [1]), (7, [12, 31], [1]), (7, [12, 30], [1]), (7, [12, 29], [1]), (7, [12, 28], [1]), (7, [12, 27], [1]), (7, [12, 26], [1]), (7, [12, 25], [1]), (7, [12, 24], [1]), (7, [12, 23], [1]), (7, [12, 22], [1]), (7, [12, 21], [1]), (7, [12, 20], [1]), (20, [2, 5], [50, 2, 0, 157, 11, 2, 7, 0, 3, 2, 0, 157, 1, 1, 1, 3, 2, 0, 11, 1, 1]), (20, [19, 5], [30, -4001, -1, 0, 0, -2, 0, 0]), (24, [0, 2], []), (8, [12], [3]), (9, [5, 2], [11]), (20, [5, 2, 12], [50, 1, 1, 1010, 1001, 4, 11, 0, 6, 4, 2, 1, 0, 0, 1, 2, 1, 10, 1, 2, 1, 2, 9, 5, 3, 1, 1, 1, 0, 0, 256]), (20, [2, 5, 12], [50, 1, 0, 10, 4, 7, 0, 3, 2, 0, 10, 1, 1, 1, 2, 1, 2, 0, -1]), (20, [2], [50, 2, 0, 157, 11, 0, 3, 2, 0, 157, 2, 0, 11]), (20, [11, 2], [30, -4001, -1, 0, 0, -2, 1, 11]), (7, [9, 10], [1]), (20, [5, 2, 9], [50, 1, 1, 1010, 1001, 4, 11, 0, 6, 4, 2, 1, 0, 0, 1, 2, 1, 10, 1, 2, 1, 2, 9, 5, 3, 1, 1, 1, 0, 0, 256]), (20, [2, 5, 9], [50, 1, 0, 10, 4, 7, 0, 3, 2, 0, 10, 1, 1, 1, 2, 1, 2, 0, -1]), (7, [7, 8], [1]), (20, [5, 2, 7], [50, 1, 1, 1010, 1001, 4, 11, 0, 6, 4, 2, 1, 0, 0, 1, 2, 1, 10, 1, 2, 1, 2, 9, 5, 3, 1, 1, 1, 0, 0, 256]), (20, [2, 5, 7], [50, 1, 0, 10, 4, 7, 0, 3, 2, 0, 10, 1, 1, 1, 2, 1, 2, 0, -1]), (20, [2], [50, 2, 0, 157, 11, 0, 3, 2, 0, 157, 2, 0, 11]), (20, [6, 2], [30, -4001, -1, 0, 0, -2, 1, 11])], [], [(0, 0, 4001, [])], [(20, [2, 5], [50, 2, 0, 157, 11, 2, 7, 0, 3, 2, 0, 157, 1, 1, 1, 3, 2, 0, 11, 1, 1]), (20, [35, 5], [30, -4001, -1, 0, 0, -2, 0, 0]), (24, [0, 2], [])], [(35, 6, 0, 0)], [(19, 6, 0, 0), (11, 6, 0, 0)])
theorem oo_Mo_styleTokens_155 {kA : Nat → ClassId} : or_ok kA GG o_Mo_styleTokens_155 := by
  intro A ta ws vs hD hth hl hk hds hf
  have hl : vs.length = 35 := hl
  have hk : ∀ q ∈ ([(0, (2, 0, 0, [150])), (2, (2, 0, 0, [150])), (5, (0, 0, 1999, [])), (6, (0, 0, 4001, [])), (7, (0, 0, 255, [])), (8, (0, 32, 32, [])), (9, (0, 0, 255, [])), (10, (0, 10, 10, [])), (11, (0, 0, 4001, [])), (12, (0, 124, 255, [])), (19, (0, 0, 4001, [])), (20, (0, 123, 123, [])), (21, (0, 125, 125, [])), (22, (0, 40, 40, [])), (23, (0, 41, 41, [])), (24, (0, 43, 43, [])), (25, (0, 45, 45, [])), (26, (0, 42, 42, [])), (27, (0, 47, 47, [])), (28, (0, 60, 60, [])), (29, (0, 61, 61, [])), (30, (0, 62, 62, [])), (31, (0, 58, 58, [])), (32, (0, 44, 44, [])), (33, (0, 59, 59, []))] : List (Nat × tv_T)), tv_ok ta q.2 (n_v vs q.1) := hk
  obtain ⟨t0, hk⟩ := List.forall_mem_cons.mp hk
  have t0 : tv_ok ta (2, 0, 0, [150]) (n_v vs 0) := t0
  have r0 : ta (v_ad (n_v vs 0)) = some 150 := tv_rg t0
  obtain ⟨t2, hk⟩ := List.forall_mem_cons.mp hk
  have t2 : tv_ok ta (2, 0, 0, [150]) (n_v vs 2) := t2
  have r2 : ta (v_ad (n_v vs 2)) = some 150 := tv_rg t2
  obtain ⟨t5, hk⟩ := List.forall_mem_cons.mp hk
  have t5 : tv_ok ta (0, 0, 1999, []) (n_v vs 5) := t5
  have k5 : 0 ≤ v_iv (n_v vs 5) ∧ v_iv (n_v vs 5) ≤ 1999 := tv_rng t5
  obtain ⟨t6, hk⟩ := List.forall_mem_cons.mp hk
  have t6 : tv_ok ta (0, 0, 4001, []) (n_v vs 6) := t6
  have k6 : 0 ≤ v_iv (n_v vs 6) ∧ v_iv (n_v vs 6) ≤ 4001 := tv_rng t6
  obtain ⟨t7, hk⟩ := List.forall_mem_cons.mp hk
  have t7 : tv_ok ta (0, 0, 255, []) (n_v vs 7) := t7
  have k7 : 0 ≤ v_iv (n_v vs 7) ∧ v_iv (n_v vs 7) ≤ 255 := tv_rng t7
  obtain ⟨t8, hk⟩ := List.forall_mem_cons.mp hk
  have t8 : tv_ok ta (0, 32, 32, []) (n_v vs 8) := t8
  have k8 : 32 ≤ v_iv (n_v vs 8) ∧ v_iv (n_v vs 8) ≤ 32 := tv_rng t8
  obtain ⟨t9, hk⟩ := List.forall_mem_cons.mp hk
  have t9 : tv_ok ta (0, 0, 255, []) (n_v vs 9) := t9
  have k9 : 0 ≤ v_iv (n_v vs 9) ∧ v_iv (n_v vs 9) ≤ 255 := tv_rng t9
  obtain ⟨t10, hk⟩ := List.forall_mem_cons.mp hk
  have t10 : tv_ok ta (0, 10, 10, []) (n_v vs 10) := t10
  have k10 : 10 ≤ v_iv (n_v vs 10) ∧ v_iv (n_v vs 10) ≤ 10 := tv_rng t10
  obtain ⟨t11, hk⟩ := List.forall_mem_cons.mp hk
  have t11 : tv_ok ta (0, 0, 4001, []) (n_v vs 11) := t11
  have k11 : 0 ≤ v_iv (n_v vs 11) ∧ v_iv (n_v vs 11) ≤ 4001 := tv_rng t11
  obtain ⟨t12, hk⟩ := List.forall_mem_cons.mp hk
  have t12 : tv_ok ta (0, 124, 255, []) (n_v vs 12) := t12
  have k12 : 124 ≤ v_iv (n_v vs 12) ∧ v_iv (n_v vs 12) ≤ 255 := tv_rng t12
  obtain ⟨t19, hk⟩ := List.forall_mem_cons.mp hk
  have t19 : tv_ok ta (0, 0, 4001, []) (n_v vs 19) := t19
  have k19 : 0 ≤ v_iv (n_v vs 19) ∧ v_iv (n_v vs 19) ≤ 4001 := tv_rng t19
  obtain ⟨t20, hk⟩ := List.forall_mem_cons.mp hk
  have t20 : tv_ok ta (0, 123, 123, []) (n_v vs 20) := t20
  have k20 : 123 ≤ v_iv (n_v vs 20) ∧ v_iv (n_v vs 20) ≤ 123 := tv_rng t20
  obtain ⟨t21, hk⟩ := List.forall_mem_cons.mp hk
  have t21 : tv_ok ta (0, 125, 125, []) (n_v vs 21) := t21
  have k21 : 125 ≤ v_iv (n_v vs 21) ∧ v_iv (n_v vs 21) ≤ 125 := tv_rng t21
  obtain ⟨t22, hk⟩ := List.forall_mem_cons.mp hk
  have t22 : tv_ok ta (0, 40, 40, []) (n_v vs 22) := t22
  have k22 : 40 ≤ v_iv (n_v vs 22) ∧ v_iv (n_v vs 22) ≤ 40 := tv_rng t22
  obtain ⟨t23, hk⟩ := List.forall_mem_cons.mp hk
  have t23 : tv_ok ta (0, 41, 41, []) (n_v vs 23) := t23
  have k23 : 41 ≤ v_iv (n_v vs 23) ∧ v_iv (n_v vs 23) ≤ 41 := tv_rng t23
  obtain ⟨t24, hk⟩ := List.forall_mem_cons.mp hk
  have t24 : tv_ok ta (0, 43, 43, []) (n_v vs 24) := t24
  have k24 : 43 ≤ v_iv (n_v vs 24) ∧ v_iv (n_v vs 24) ≤ 43 := tv_rng t24
  obtain ⟨t25, hk⟩ := List.forall_mem_cons.mp hk
  have t25 : tv_ok ta (0, 45, 45, []) (n_v vs 25) := t25
  have k25 : 45 ≤ v_iv (n_v vs 25) ∧ v_iv (n_v vs 25) ≤ 45 := tv_rng t25
  obtain ⟨t26, hk⟩ := List.forall_mem_cons.mp hk
  have t26 : tv_ok ta (0, 42, 42, []) (n_v vs 26) := t26
  have k26 : 42 ≤ v_iv (n_v vs 26) ∧ v_iv (n_v vs 26) ≤ 42 := tv_rng t26
  obtain ⟨t27, hk⟩ := List.forall_mem_cons.mp hk
  have t27 : tv_ok ta (0, 47, 47, []) (n_v vs 27) := t27
  have k27 : 47 ≤ v_iv (n_v vs 27) ∧ v_iv (n_v vs 27) ≤ 47 := tv_rng t27
  obtain ⟨t28, hk⟩ := List.forall_mem_cons.mp hk
  have t28 : tv_ok ta (0, 60, 60, []) (n_v vs 28) := t28
  have k28 : 60 ≤ v_iv (n_v vs 28) ∧ v_iv (n_v vs 28) ≤ 60 := tv_rng t28
  obtain ⟨t29, hk⟩ := List.forall_mem_cons.mp hk
  have t29 : tv_ok ta (0, 61, 61, []) (n_v vs 29) := t29
  have k29 : 61 ≤ v_iv (n_v vs 29) ∧ v_iv (n_v vs 29) ≤ 61 := tv_rng t29
  obtain ⟨t30, hk⟩ := List.forall_mem_cons.mp hk
  have t30 : tv_ok ta (0, 62, 62, []) (n_v vs 30) := t30
  have k30 : 62 ≤ v_iv (n_v vs 30) ∧ v_iv (n_v vs 30) ≤ 62 := tv_rng t30
  obtain ⟨t31, hk⟩ := List.forall_mem_cons.mp hk
  have t31 : tv_ok ta (0, 58, 58, []) (n_v vs 31) := t31
  have k31 : 58 ≤ v_iv (n_v vs 31) ∧ v_iv (n_v vs 31) ≤ 58 := tv_rng t31
  obtain ⟨t32, hk⟩ := List.forall_mem_cons.mp hk
  have t32 : tv_ok ta (0, 44, 44, []) (n_v vs 32) := t32
  have k32 : 44 ≤ v_iv (n_v vs 32) ∧ v_iv (n_v vs 32) ≤ 44 := tv_rng t32
  obtain ⟨t33, hk⟩ := List.forall_mem_cons.mp hk
  have t33 : tv_ok ta (0, 59, 59, []) (n_v vs 33) := t33
  have k33 : 59 ≤ v_iv (n_v vs 33) ∧ v_iv (n_v vs 33) ≤ 59 := tv_rng t33
  have hds : ∀ q ∈ ([(19, 6, 0, 0), (11, 6, 0, 0)] : List of_T), n_iv vs q.2.1 + q.2.2.1 ≤ n_iv vs q.1 ∧ n_iv vs q.1 ≤ n_iv vs q.2.1 + q.2.2.2 := hds
  obtain ⟨d0, hds⟩ := List.forall_mem_cons.mp hds
  have d0 : v_iv (n_v vs 6) + 0 ≤ v_iv (n_v vs 19) ∧ v_iv (n_v vs 19) ≤ v_iv (n_v vs 6) + 0 := d0
  obtain ⟨d1, hds⟩ := List.forall_mem_cons.mp hds
  have d1 : v_iv (n_v vs 6) + 0 ≤ v_iv (n_v vs 11) ∧ v_iv (n_v vs 11) ≤ v_iv (n_v vs 6) + 0 := d1
  have hf : fc_ok [(7, [12, 33], [1]), (7, [12, 32], [1]), (7, [12, 31], [1]), (7, [12, 30], [1]), (7, [12, 29], [1]), (7, [12, 28], [1]), (7, [12, 27], [1]), (7, [12, 26], [1]), (7, [12, 25], [1]), (7, [12, 24], [1]), (7, [12, 23], [1]), (7, [12, 22], [1]), (7, [12, 21], [1]), (7, [12, 20], [1]), (20, [2, 5], [50, 2, 0, 157, 11, 2, 7, 0, 3, 2, 0, 157, 1, 1, 1, 3, 2, 0, 11, 1, 1]), (20, [19, 5], [30, -4001, -1, 0, 0, -2, 0, 0]), (24, [0, 2], []), (8, [12], [3]), (9, [5, 2], [11]), (20, [5, 2, 12], [50, 1, 1, 1010, 1001, 4, 11, 0, 6, 4, 2, 1, 0, 0, 1, 2, 1, 10, 1, 2, 1, 2, 9, 5, 3, 1, 1, 1, 0, 0, 256]), (20, [2, 5, 12], [50, 1, 0, 10, 4, 7, 0, 3, 2, 0, 10, 1, 1, 1, 2, 1, 2, 0, -1]), (20, [2], [50, 2, 0, 157, 11, 0, 3, 2, 0, 157, 2, 0, 11]), (20, [11, 2], [30, -4001, -1, 0, 0, -2, 1, 11]), (7, [9, 10], [1]), (20, [5, 2, 9], [50, 1, 1, 1010, 1001, 4, 11, 0, 6, 4, 2, 1, 0, 0, 1, 2, 1, 10, 1, 2, 1, 2, 9, 5, 3, 1, 1, 1, 0, 0, 256]), (20, [2, 5, 9], [50, 1, 0, 10, 4, 7, 0, 3, 2, 0, 10, 1, 1, 1, 2, 1, 2, 0, -1]), (7, [7, 8], [1]), (20, [5, 2, 7], [50, 1, 1, 1010, 1001, 4, 11, 0, 6, 4, 2, 1, 0, 0, 1, 2, 1, 10, 1, 2, 1, 2, 9, 5, 3, 1, 1, 1, 0, 0, 256]), (20, [2, 5, 7], [50, 1, 0, 10, 4, 7, 0, 3, 2, 0, 10, 1, 1, 1, 2, 1, 2, 0, -1]), (20, [2], [50, 2, 0, 157, 11, 0, 3, 2, 0, 157, 2, 0, 11]), (20, [6, 2], [30, -4001, -1, 0, 0, -2, 1, 11])] ta ws vs := hf
  obtain ⟨f0, hf⟩ := fc_un (by decide) hf
  have f0 : v_iv (n_v vs 12) ≠ v_iv (n_v vs 33) := f0
  obtain ⟨f1, hf⟩ := fc_un (by decide) hf
  have f1 : v_iv (n_v vs 12) ≠ v_iv (n_v vs 32) := f1
  obtain ⟨f2, hf⟩ := fc_un (by decide) hf
  have f2 : v_iv (n_v vs 12) ≠ v_iv (n_v vs 31) := f2
  obtain ⟨f3, hf⟩ := fc_un (by decide) hf
  have f3 : v_iv (n_v vs 12) ≠ v_iv (n_v vs 30) := f3
  obtain ⟨f4, hf⟩ := fc_un (by decide) hf
  have f4 : v_iv (n_v vs 12) ≠ v_iv (n_v vs 29) := f4
  obtain ⟨f5, hf⟩ := fc_un (by decide) hf
  have f5 : v_iv (n_v vs 12) ≠ v_iv (n_v vs 28) := f5
  obtain ⟨f6, hf⟩ := fc_un (by decide) hf
  have f6 : v_iv (n_v vs 12) ≠ v_iv (n_v vs 27) := f6
  obtain ⟨f7, hf⟩ := fc_un (by decide) hf
  have f7 : v_iv (n_v vs 12) ≠ v_iv (n_v vs 26) := f7
  obtain ⟨f8, hf⟩ := fc_un (by decide) hf
  have f8 : v_iv (n_v vs 12) ≠ v_iv (n_v vs 25) := f8
  obtain ⟨f9, hf⟩ := fc_un (by decide) hf
  have f9 : v_iv (n_v vs 12) ≠ v_iv (n_v vs 24) := f9
  obtain ⟨f10, hf⟩ := fc_un (by decide) hf
  have f10 : v_iv (n_v vs 12) ≠ v_iv (n_v vs 23) := f10
  obtain ⟨f11, hf⟩ := fc_un (by decide) hf
  have f11 : v_iv (n_v vs 12) ≠ v_iv (n_v vs 22) := f11
  obtain ⟨f12, hf⟩ := fc_un (by decide) hf
  have f12 : v_iv (n_v vs 12) ≠ v_iv (n_v vs 21) := f12
  obtain ⟨f13, hf⟩ := fc_un (by decide) hf
  have f13 : v_iv (n_v vs 12) ≠ v_iv (n_v vs 20) := f13
  obtain ⟨f14, hf⟩ := fc_un (by decide) hf
  have f14 : (w_fi ws (n_v vs 2) 157 ≤ v_iv (n_v vs 5)) ∧ (w_fi ws (n_v vs 2) 11 = v_iv (n_v vs 5)) := f14
  obtain ⟨f15, hf⟩ := fc_un (by decide) hf
  have f15 : (-1) * v_iv (n_v vs 19) + ((-2) * v_iv (n_v vs 5) + 0) ≤ (-4001) := f15
  obtain ⟨f16, hf⟩ := fc_un (by decide) hf
  have f16 : n_v vs 0 = n_v vs 2 := f16
  obtain ⟨f17, hf⟩ := fc_un (by decide) hf
  have f17 : 0 ≤ v_iv (n_v vs 12) := f17
  obtain ⟨f18, hf⟩ := fc_un (by decide) hf
  have f18 : n_v vs 5 = w_fd ws (v_ad (n_v vs 2)) 11 := f18
  obtain ⟨f19, hf⟩ := fc_un (by decide) hf
  have f19 : ((v_iv (n_v vs 5) + 1) ≤ w_fi ws (n_v vs 2) 10) → (v_iv (n_v vs 12) = (w_ei ws (w_ar ws (n_v vs 2) 1) (v_iv (n_v vs 5)) % 256)) := f19
  obtain ⟨f20, hf⟩ := fc_un (by decide) hf
  have f20 : (w_fi ws (n_v vs 2) 10 ≤ v_iv (n_v vs 5)) → (v_iv (n_v vs 12) = (-1)) := f20
  obtain ⟨f21, hf⟩ := fc_un (by decide) hf
  have f21 : w_fi ws (n_v vs 2) 157 ≤ w_fi ws (n_v vs 2) 11 := f21
  obtain ⟨f22, hf⟩ := fc_un (by decide) hf
  have f22 : (-1) * v_iv (n_v vs 11) + ((-2) * w_fi ws (n_v vs 2) 11 + 0) ≤ (-4001) := f22
  obtain ⟨f23, hf⟩ := fc_un (by decide) hf
  have f23 : v_iv (n_v vs 9) ≠ v_iv (n_v vs 10) := f23
  obtain ⟨f24, hf⟩ := fc_un (by decide) hf
  have f24 : ((v_iv (n_v vs 5) + 1) ≤ w_fi ws (n_v vs 2) 10) → (v_iv (n_v vs 9) = (w_ei ws (w_ar ws (n_v vs 2) 1) (v_iv (n_v vs 5)) % 256)) := f24
  obtain ⟨f25, hf⟩ := fc_un (by decide) hf
  have f25 : (w_fi ws (n_v vs 2) 10 ≤ v_iv (n_v vs 5)) → (v_iv (n_v vs 9) = (-1)) := f25
  obtain ⟨f26, hf⟩ := fc_un (by decide) hf
  have f26 : v_iv (n_v vs 7) ≠ v_iv (n_v vs 8) := f26
  obtain ⟨f27, hf⟩ := fc_un (by decide) hf
  have f27 : ((v_iv (n_v vs 5) + 1) ≤ w_fi ws (n_v vs 2) 10) → (v_iv (n_v vs 7) = (w_ei ws (w_ar ws (n_v vs 2) 1) (v_iv (n_v vs 5)) % 256)) := f27
  obtain ⟨f28, hf⟩ := fc_un (by decide) hf
  have f28 : (w_fi ws (n_v vs 2) 10 ≤ v_iv (n_v vs 5)) → (v_iv (n_v vs 7) = (-1)) := f28
  obtain ⟨f29, hf⟩ := fc_un (by decide) hf
  have f29 : w_fi ws (n_v vs 2) 157 ≤ w_fi ws (n_v vs 2) 11 := f29
  obtain ⟨f30, hf⟩ := fc_un (by decide) hf
  have f30 : (-1) * v_iv (n_v vs 6) + ((-2) * w_fi ws (n_v vs 2) 11 + 0) ≤ (-4001) := f30
  have q2 : n_v vs 2 = n_v vs 0 := f16.symm
  rw [q2] at f14
  rw [q2] at f18
  rw [q2] at f19
  rw [q2] at f20
  rw [q2] at f21
  rw [q2] at f22
  rw [q2] at f24
  rw [q2] at f25
  rw [q2] at f27
  rw [q2] at f28
  rw [q2] at f29
  rw [q2] at f30
  have cr_0_1 : ta (w_ar ws (n_v vs 0) 1) = some 151 := tv_rg (th_fd hD hth r0 (g := GG_150) rfl (k := 1) (t := (2, 0, 0, [151])) rfl rfl)
  have g18 : v_iv (n_v vs 5) = w_fi ws (n_v vs 0) 11 := congrArg v_iv f18
  have hK_0_1 : ∀ j : Int, 0 ≤ j → j < 2000 → (-128) ≤ w_ei ws (w_ar ws (n_v vs 0) 1) j ∧ w_ei ws (w_ar ws (n_v vs 0) 1) j ≤ 127 := fun j h0 h1 => th_el hD hth cr_0_1 (kd := 1) (n := 2000) (m := 2000) (lo := (-128)) (hi := 127) (rs := []) (L := []) rfl (by decide) (j := j.toNat) (by omega)
  have kz_0_10 : 0 ≤ w_fi ws (n_v vs 0) 10 ∧ w_fi ws (n_v vs 0) 10 ≤ 2000 := tv_rng (th_fd hD hth r0 (g := GG_150) rfl (k := 10) (t := (0, 0, 2000, [])) rfl rfl)
  have kz_0_11 : 0 ≤ w_fi ws (n_v vs 0) 11 ∧ w_fi ws (n_v vs 0) 11 ≤ 2000 := tv_rng (th_fd hD hth r0 (g := GG_150) rfl (k := 11) (t := (0, 0, 2000, [])) rfl rfl)
  have kz_0_157 : 0 ≤ w_fi ws (n_v vs 0) 157 ∧ w_fi ws (n_v vs 0) 157 ≤ 2010 := tv_rng (th_fd hD hth r0 (g := GG_150) rfl (k := 157) (t := (0, 0, 2010, [])) rfl rfl)
  obtain ⟨x, ex, hx⟩ := iv_ex (ta := ta) (lo := 0) (hi := 4001) (z := 0 + (1 * v_iv (n_v vs 6) + 0)) (by omega) (by omega) (by decide) (by decide)
  have ex2 : v_iv (Value.int x) = 0 + (1 * v_iv (n_v vs 6) + 0) := ex
  have ex3 : 0 ≤ v_iv (Value.int x) ∧ v_iv (Value.int x) ≤ 4001 := tv_rng hx
  have e_0 : n_v (vs ++ [Value.int x]) 0 = n_v vs 0 := n_v_old (by rw [hl]; decide)
  have e_2 : n_v (vs ++ [Value.int x]) 2 = n_v vs 2 := n_v_old (by rw [hl]; decide)
  have e_5 : n_v (vs ++ [Value.int x]) 5 = n_v vs 5 := n_v_old (by rw [hl]; decide)
  have e_35 : n_v (vs ++ [Value.int x]) 35 = Value.int x := n_v_new hl
  have nf0 : fc_1 (20, [2, 5], [50, 2, 0, 157, 11, 2, 7, 0, 3, 2, 0, 157, 1, 1, 1, 3, 2, 0, 11, 1, 1]) ws (vs ++ [Value.int x]) := by
    refine ⟨fun n hn => ?_, ?_⟩
    · have hn : n ∈ [2, 5] := hn
      rw [List.length_append, hl]
      simp only [List.mem_cons, List.not_mem_nil, or_false] at hn
      show n < 35 + 1; omega
    · show (w_fi ws (n_v (vs ++ [Value.int x]) 2) 157 ≤ v_iv (n_v (vs ++ [Value.int x]) 5)) ∧ (w_fi ws (n_v (vs ++ [Value.int x]) 2) 11 = v_iv (n_v (vs ++ [Value.int x]) 5))
      rw [e_2]
      rw [e_5]
      rw [q2]
      first | omega | grind
  have nf1 : fc_1 (20, [35, 5], [30, -4001, -1, 0, 0, -2, 0, 0]) ws (vs ++ [Value.int x]) := by
    refine ⟨fun n hn => ?_, ?_⟩
    · have hn : n ∈ [35, 5] := hn
      rw [List.length_append, hl]
      simp only [List.mem_cons, List.not_mem_nil, or_false] at hn
      show n < 35 + 1; omega
    · show (-1) * v_iv (n_v (vs ++ [Value.int x]) 35) + ((-2) * v_iv (n_v (vs ++ [Value.int x]) 5) + 0) ≤ (-4001)
      rw [e_5]
      rw [e_35]
      omega
  have nf2 : fc_1 (24, [0, 2], []) ws (vs ++ [Value.int x]) := by
    refine ⟨fun n hn => ?_, ?_⟩
    · have hn : n ∈ [0, 2] := hn
      rw [List.length_append, hl]
      simp only [List.mem_cons, List.not_mem_nil, or_false] at hn
      show n < 35 + 1; omega
    · show n_v (vs ++ [Value.int x]) 0 = n_v (vs ++ [Value.int x]) 2
      first | rfl | simp only [e_0, e_2, q2]
  obtain ⟨x0, e0, _, _⟩ := tv_int t6 rfl
  have e1 : v_iv (n_v vs 6) = x0.toInt := by rw [e0]; rfl
  have ho : sy_ofs (vs ++ [Value.int x]) (35, 6, 0, 0) := by
    refine ⟨x, x0, by rw [List.getElem?_append_right (by rw [hl]; decide), hl]; rfl, ?_, ?_, ?_⟩
    · rw [List.getElem?_append_left (by rw [hl]; decide)]; exact n_v_some (by rw [hl]; decide) e0
    · show x0.toInt + 0 ≤ x.toInt; omega
    · show x.toInt ≤ x0.toInt + 0; omega
  exact ⟨fun q hq => (by cases hq), [Value.int x], ag_one hx, List.forall_mem_cons.mpr ⟨⟨by decide, nf0⟩, List.forall_mem_cons.mpr ⟨⟨by decide, nf1⟩, List.forall_mem_cons.mpr ⟨⟨by decide, nf2⟩, (fun _ h => (by cases h))⟩⟩⟩, List.forall_mem_cons.mpr ⟨ho, (fun _ h => (by cases h))⟩⟩
def o_Mo_styleTokens_156 : or_T := (103, 18, [(0, (2, 0, 0, [150])), (2, (2, 0, 0, [150])), (5, (0, 0, 1999, [])), (6, (0, 0, 4001, [])), (7, (0, 0, 255, [])), (8, (0, 32, 32, [])), (9, (0, 0, 255, [])), (10, (0, 10, 10, [])), (11, (0, 0, 4001, [])), (12, (0, 97, 122, []))], [(8, [12], [3]), (9, [5, 2], [11]), (20, [5, 2, 12], [50, 1, 1, 1010, 1001, 4, 11, 0, 6, 4, 2, 1, 0, 0, 1, 2, 1, 10, 1, 2, 1, 2, 9, 5, 3, 1, 1, 1, 0, 0, 256]), (20, [2, 5, 12], [50, 1, 0, 10, 4, 7, 0, 3, 2, 0, 10, 1, 1, 1, 2, 1, 2, 0, -1]), (20, [2], [50, 2, 0, 157, 11, 0, 3, 2, 0, 157, 2, 0, 11]), (20, [11, 2], [30, -4001, -1, 0, 0, -2, 1, 11]), (24, [0, 2], []), (7, [9, 10], [1]), (20, [5, 2, 9], [50, 1, 1, 1010, 1001, 4, 11, 0, 6, 4, 2, 1, 0, 0, 1, 2, 1, 10, 1, 2, 1, 2, 9, 5, 3, 1, 1, 1, 0, 0, 256]), (20, [2, 5, 9], [50, 1, 0, 10, 4, 7, 0, 3, 2, 0, 10, 1, 1, 1, 2, 1, 2, 0, -1]), (7, [7, 8], [1]), (20, [5, 2, 7], [50, 1, 1, 1010, 1001, 4, 11, 0, 6, 4, 2, 1, 0, 0, 1, 2, 1, 10, 1, 2, 1, 2, 9, 5, 3, 1, 1, 1, 0, 0, 256]), (20, [2, 5, 7], [50, 1, 0, 10, 4, 7, 0, 3, 2, 0, 10, 1, 1, 1, 2, 1, 2, 0, -1]), (20, [2], [50, 2, 0, 157, 11, 0, 3, 2, 0, 157, 2, 0, 11]), (20, [6, 2], [30, -4001, -1, 0, 0, -2, 1, 11])], [], [(0, 0, 4001, [])], [(20, [2, 5], [50, 3, 1, 157, 11, 10, 1, 2, 7, 0, 3, 2, 0, 157, 1, 1, 2, 7, 0, 2, 1, 1, 2, 0, 11, 3, 11, 0, 6, 4, 2, 1, 1, 0, 1, 2, 0, 11, 2, 7, 1, 3, 2, 0, 11, 1, 1, 2, 11, 0, 6, 4, 2, 1, 1, 0, 1, 2, 0, 10, 2, 13, 0, 2, 0, 97, 9, 5, 3, 0, 1, 1, 1, 0, 256, 0, 9, 9, 5, 3, 0, 1, 1, 1, 0, 256, 0, 122]), (20, [18, 5], [30, -4001, -1, 0, 0, -2, 0, 0]), (24, [0, 2], [])], [(18, 6, 0, 0)], [(11, 6, 0, 0)])
theorem oo_Mo_styleTokens_156 {kA : Nat → ClassId} : or_ok kA GG o_Mo_styleTokens_156 := by
  intro A ta ws vs hD hth hl hk hds hf
  have hl : vs.length = 18 := hl
  have hk : ∀ q ∈ ([(0, (2, 0, 0, [150])), (2, (2, 0, 0, [150])), (5, (0, 0, 1999, [])), (6, (0, 0, 4001, [])), (7, (0, 0, 255, [])), (8, (0, 32, 32, [])), (9, (0, 0, 255, [])), (10, (0, 10, 10, [])), (11, (0, 0, 4001, [])), (12, (0, 97, 122, []))] : List (Nat × tv_T)), tv_ok ta q.2 (n_v vs q.1) := hk
  obtain ⟨t0, hk⟩ := List.forall_mem_cons.mp hk
  have t0 : tv_ok ta (2, 0, 0, [150]) (n_v vs 0) := t0
  have r0 : ta (v_ad (n_v vs 0)) = some 150 := tv_rg t0
  obtain ⟨t2, hk⟩ := List.forall_mem_cons.mp hk
  have t2 : tv_ok ta (2, 0, 0, [150]) (n_v vs 2) := t2
  have r2 : ta (v_ad (n_v vs 2)) = some 150 := tv_rg t2
  obtain ⟨t5, hk⟩ := List.forall_mem_cons.mp hk
  have t5 : tv_ok ta (0, 0, 1999, []) (n_v vs 5) := t5
  have k5 : 0 ≤ v_iv (n_v vs 5) ∧ v_iv (n_v vs 5) ≤ 1999 := tv_rng t5
  obtain ⟨t6, hk⟩ := List.forall_mem_cons.mp hk
  have t6 : tv_ok ta (0, 0, 4001, []) (n_v vs 6) := t6
  have k6 : 0 ≤ v_iv (n_v vs 6) ∧ v_iv (n_v vs 6) ≤ 4001 := tv_rng t6
  obtain ⟨t7, hk⟩ := List.forall_mem_cons.mp hk
  have t7 : tv_ok ta (0, 0, 255, []) (n_v vs 7) := t7
  have k7 : 0 ≤ v_iv (n_v vs 7) ∧ v_iv (n_v vs 7) ≤ 255 := tv_rng t7
  obtain ⟨t8, hk⟩ := List.forall_mem_cons.mp hk
  have t8 : tv_ok ta (0, 32, 32, []) (n_v vs 8) := t8
  have k8 : 32 ≤ v_iv (n_v vs 8) ∧ v_iv (n_v vs 8) ≤ 32 := tv_rng t8
  obtain ⟨t9, hk⟩ := List.forall_mem_cons.mp hk
  have t9 : tv_ok ta (0, 0, 255, []) (n_v vs 9) := t9
  have k9 : 0 ≤ v_iv (n_v vs 9) ∧ v_iv (n_v vs 9) ≤ 255 := tv_rng t9
  obtain ⟨t10, hk⟩ := List.forall_mem_cons.mp hk
  have t10 : tv_ok ta (0, 10, 10, []) (n_v vs 10) := t10
  have k10 : 10 ≤ v_iv (n_v vs 10) ∧ v_iv (n_v vs 10) ≤ 10 := tv_rng t10
  obtain ⟨t11, hk⟩ := List.forall_mem_cons.mp hk
  have t11 : tv_ok ta (0, 0, 4001, []) (n_v vs 11) := t11
  have k11 : 0 ≤ v_iv (n_v vs 11) ∧ v_iv (n_v vs 11) ≤ 4001 := tv_rng t11
  obtain ⟨t12, hk⟩ := List.forall_mem_cons.mp hk
  have t12 : tv_ok ta (0, 97, 122, []) (n_v vs 12) := t12
  have k12 : 97 ≤ v_iv (n_v vs 12) ∧ v_iv (n_v vs 12) ≤ 122 := tv_rng t12
  have hds : ∀ q ∈ ([(11, 6, 0, 0)] : List of_T), n_iv vs q.2.1 + q.2.2.1 ≤ n_iv vs q.1 ∧ n_iv vs q.1 ≤ n_iv vs q.2.1 + q.2.2.2 := hds
  obtain ⟨d0, hds⟩ := List.forall_mem_cons.mp hds
  have d0 : v_iv (n_v vs 6) + 0 ≤ v_iv (n_v vs 11) ∧ v_iv (n_v vs 11) ≤ v_iv (n_v vs 6) + 0 := d0
  have hf : fc_ok [(8, [12], [3]), (9, [5, 2], [11]), (20, [5, 2, 12], [50, 1, 1, 1010, 1001, 4, 11, 0, 6, 4, 2, 1, 0, 0, 1, 2, 1, 10, 1, 2, 1, 2, 9, 5, 3, 1, 1, 1, 0, 0, 256]), (20, [2, 5, 12], [50, 1, 0, 10, 4, 7, 0, 3, 2, 0, 10, 1, 1, 1, 2, 1, 2, 0, -1]), (20, [2], [50, 2, 0, 157, 11, 0, 3, 2, 0, 157, 2, 0, 11]), (20, [11, 2], [30, -4001, -1, 0, 0, -2, 1, 11]), (24, [0, 2], []), (7, [9, 10], [1]), (20, [5, 2, 9], [50, 1, 1, 1010, 1001, 4, 11, 0, 6, 4, 2, 1, 0, 0, 1, 2, 1, 10, 1, 2, 1, 2, 9, 5, 3, 1, 1, 1, 0, 0, 256]), (20, [2, 5, 9], [50, 1, 0, 10, 4, 7, 0, 3, 2, 0, 10, 1, 1, 1, 2, 1, 2, 0, -1]), (7, [7, 8], [1]), (20, [5, 2, 7], [50, 1, 1, 1010, 1001, 4, 11, 0, 6, 4, 2, 1, 0, 0, 1, 2, 1, 10, 1, 2, 1, 2, 9, 5, 3, 1, 1, 1, 0, 0, 256]), (20, [2, 5, 7], [50, 1, 0, 10, 4, 7, 0, 3, 2, 0, 10, 1, 1, 1, 2, 1, 2, 0, -1]), (20, [2], [50, 2, 0, 157, 11, 0, 3, 2, 0, 157, 2, 0, 11]), (20, [6, 2], [30, -4001, -1, 0, 0, -2, 1, 11])] ta ws vs := hf
  obtain ⟨f0, hf⟩ := fc_un (by decide) hf
  have f0 : 0 ≤ v_iv (n_v vs 12) := f0
  obtain ⟨f1, hf⟩ := fc_un (by decide) hf
  have f1 : n_v vs 5 = w_fd ws (v_ad (n_v vs 2)) 11 := f1
  obtain ⟨f2, hf⟩ := fc_un (by decide) hf
  have f2 : ((v_iv (n_v vs 5) + 1) ≤ w_fi ws (n_v vs 2) 10) → (v_iv (n_v vs 12) = (w_ei ws (w_ar ws (n_v vs 2) 1) (v_iv (n_v vs 5)) % 256)) := f2
  obtain ⟨f3, hf⟩ := fc_un (by decide) hf
  have f3 : (w_fi ws (n_v vs 2) 10 ≤ v_iv (n_v vs 5)) → (v_iv (n_v vs 12) = (-1)) := f3
  obtain ⟨f4, hf⟩ := fc_un (by decide) hf
  have f4 : w_fi ws (n_v vs 2) 157 ≤ w_fi ws (n_v vs 2) 11 := f4
  obtain ⟨f5, hf⟩ := fc_un (by decide) hf
  have f5 : (-1) * v_iv (n_v vs 11) + ((-2) * w_fi ws (n_v vs 2) 11 + 0) ≤ (-4001) := f5
  obtain ⟨f6, hf⟩ := fc_un (by decide) hf
  have f6 : n_v vs 0 = n_v vs 2 := f6
  obtain ⟨f7, hf⟩ := fc_un (by decide) hf
  have f7 : v_iv (n_v vs 9) ≠ v_iv (n_v vs 10) := f7
  obtain ⟨f8, hf⟩ := fc_un (by decide) hf
  have f8 : ((v_iv (n_v vs 5) + 1) ≤ w_fi ws (n_v vs 2) 10) → (v_iv (n_v vs 9) = (w_ei ws (w_ar ws (n_v vs 2) 1) (v_iv (n_v vs 5)) % 256)) := f8
  obtain ⟨f9, hf⟩ := fc_un (by decide) hf
  have f9 : (w_fi ws (n_v vs 2) 10 ≤ v_iv (n_v vs 5)) → (v_iv (n_v vs 9) = (-1)) := f9
  obtain ⟨f10, hf⟩ := fc_un (by decide) hf
  have f10 : v_iv (n_v vs 7) ≠ v_iv (n_v vs 8) := f10
  obtain ⟨f11, hf⟩ := fc_un (by decide) hf
  have f11 : ((v_iv (n_v vs 5) + 1) ≤ w_fi ws (n_v vs 2) 10) → (v_iv (n_v vs 7) = (w_ei ws (w_ar ws (n_v vs 2) 1) (v_iv (n_v vs 5)) % 256)) := f11
  obtain ⟨f12, hf⟩ := fc_un (by decide) hf
  have f12 : (w_fi ws (n_v vs 2) 10 ≤ v_iv (n_v vs 5)) → (v_iv (n_v vs 7) = (-1)) := f12
  obtain ⟨f13, hf⟩ := fc_un (by decide) hf
  have f13 : w_fi ws (n_v vs 2) 157 ≤ w_fi ws (n_v vs 2) 11 := f13
  obtain ⟨f14, hf⟩ := fc_un (by decide) hf
  have f14 : (-1) * v_iv (n_v vs 6) + ((-2) * w_fi ws (n_v vs 2) 11 + 0) ≤ (-4001) := f14
  have q2 : n_v vs 2 = n_v vs 0 := f6.symm
  rw [q2] at f1
  rw [q2] at f2
  rw [q2] at f3
  rw [q2] at f4
  rw [q2] at f5
  rw [q2] at f8
  rw [q2] at f9
  rw [q2] at f11
  rw [q2] at f12
  rw [q2] at f13
  rw [q2] at f14
  have cr_0_1 : ta (w_ar ws (n_v vs 0) 1) = some 151 := tv_rg (th_fd hD hth r0 (g := GG_150) rfl (k := 1) (t := (2, 0, 0, [151])) rfl rfl)
  have g1 : v_iv (n_v vs 5) = w_fi ws (n_v vs 0) 11 := congrArg v_iv f1
  have hK_0_1 : ∀ j : Int, 0 ≤ j → j < 2000 → (-128) ≤ w_ei ws (w_ar ws (n_v vs 0) 1) j ∧ w_ei ws (w_ar ws (n_v vs 0) 1) j ≤ 127 := fun j h0 h1 => th_el hD hth cr_0_1 (kd := 1) (n := 2000) (m := 2000) (lo := (-128)) (hi := 127) (rs := []) (L := []) rfl (by decide) (j := j.toNat) (by omega)
  have kz_0_10 : 0 ≤ w_fi ws (n_v vs 0) 10 ∧ w_fi ws (n_v vs 0) 10 ≤ 2000 := tv_rng (th_fd hD hth r0 (g := GG_150) rfl (k := 10) (t := (0, 0, 2000, [])) rfl rfl)
  have kz_0_11 : 0 ≤ w_fi ws (n_v vs 0) 11 ∧ w_fi ws (n_v vs 0) 11 ≤ 2000 := tv_rng (th_fd hD hth r0 (g := GG_150) rfl (k := 11) (t := (0, 0, 2000, [])) rfl rfl)
  have kz_0_157 : 0 ≤ w_fi ws (n_v vs 0) 157 ∧ w_fi ws (n_v vs 0) 157 ≤ 2010 := tv_rng (th_fd hD hth r0 (g := GG_150) rfl (k := 157) (t := (0, 0, 2010, [])) rfl rfl)
  obtain ⟨x, ex, hx⟩ := iv_ex (ta := ta) (lo := 0) (hi := 4001) (z := 0 + (1 * v_iv (n_v vs 6) + 0)) (by omega) (by omega) (by decide) (by decide)
  have ex2 : v_iv (Value.int x) = 0 + (1 * v_iv (n_v vs 6) + 0) := ex
  have ex3 : 0 ≤ v_iv (Value.int x) ∧ v_iv (Value.int x) ≤ 4001 := tv_rng hx
  have e_0 : n_v (vs ++ [Value.int x]) 0 = n_v vs 0 := n_v_old (by rw [hl]; decide)
  have e_2 : n_v (vs ++ [Value.int x]) 2 = n_v vs 2 := n_v_old (by rw [hl]; decide)
  have e_5 : n_v (vs ++ [Value.int x]) 5 = n_v vs 5 := n_v_old (by rw [hl]; decide)
  have e_18 : n_v (vs ++ [Value.int x]) 18 = Value.int x := n_v_new hl
  have nf0 : fc_1 (20, [2, 5], [50, 3, 1, 157, 11, 10, 1, 2, 7, 0, 3, 2, 0, 157, 1, 1, 2, 7, 0, 2, 1, 1, 2, 0, 11, 3, 11, 0, 6, 4, 2, 1, 1, 0, 1, 2, 0, 11, 2, 7, 1, 3, 2, 0, 11, 1, 1, 2, 11, 0, 6, 4, 2, 1, 1, 0, 1, 2, 0, 10, 2, 13, 0, 2, 0, 97, 9, 5, 3, 0, 1, 1, 1, 0, 256, 0, 9, 9, 5, 3, 0, 1, 1, 1, 0, 256, 0, 122]) ws (vs ++ [Value.int x]) := by
    refine ⟨fun n hn => ?_, ?_⟩
    · have hn : n ∈ [2, 5] := hn
      rw [List.length_append, hl]
      simp only [List.mem_cons, List.not_mem_nil, or_false] at hn
      show n < 18 + 1; omega
    · show (w_fi ws (n_v (vs ++ [Value.int x]) 2) 157 ≤ v_iv (n_v (vs ++ [Value.int x]) 5)) ∧ ((v_iv (n_v (vs ++ [Value.int x]) 5) ≤ w_fi ws (n_v (vs ++ [Value.int x]) 2) 11) ∧ (((v_iv (n_v (vs ++ [Value.int x]) 5) + 1) ≤ w_fi ws (n_v (vs ++ [Value.int x]) 2) 11) ∨ ((w_fi ws (n_v (vs ++ [Value.int x]) 2) 11 = v_iv (n_v (vs ++ [Value.int x]) 5)) ∧ (((v_iv (n_v (vs ++ [Value.int x]) 5) + 1) ≤ w_fi ws (n_v (vs ++ [Value.int x]) 2) 10) ∧ ((97 ≤ (w_ei ws (w_ar ws (n_v (vs ++ [Value.int x]) 2) 1) (v_iv (n_v (vs ++ [Value.int x]) 5)) % 256)) ∧ ((w_ei ws (w_ar ws (n_v (vs ++ [Value.int x]) 2) 1) (v_iv (n_v (vs ++ [Value.int x]) 5)) % 256) ≤ 122))))))
      rw [e_2]
      rw [e_5]
      rw [q2]
      first | omega | grind
  have nf1 : fc_1 (20, [18, 5], [30, -4001, -1, 0, 0, -2, 0, 0]) ws (vs ++ [Value.int x]) := by
    refine ⟨fun n hn => ?_, ?_⟩
    · have hn : n ∈ [18, 5] := hn
      rw [List.length_append, hl]
      simp only [List.mem_cons, List.not_mem_nil, or_false] at hn
      show n < 18 + 1; omega
    · show (-1) * v_iv (n_v (vs ++ [Value.int x]) 18) + ((-2) * v_iv (n_v (vs ++ [Value.int x]) 5) + 0) ≤ (-4001)
      rw [e_5]
      rw [e_18]
      omega
  have nf2 : fc_1 (24, [0, 2], []) ws (vs ++ [Value.int x]) := by
    refine ⟨fun n hn => ?_, ?_⟩
    · have hn : n ∈ [0, 2] := hn
      rw [List.length_append, hl]
      simp only [List.mem_cons, List.not_mem_nil, or_false] at hn
      show n < 18 + 1; omega
    · show n_v (vs ++ [Value.int x]) 0 = n_v (vs ++ [Value.int x]) 2
      first | rfl | simp only [e_0, e_2, q2]
  obtain ⟨x0, e0, _, _⟩ := tv_int t6 rfl
  have e1 : v_iv (n_v vs 6) = x0.toInt := by rw [e0]; rfl
  have ho : sy_ofs (vs ++ [Value.int x]) (18, 6, 0, 0) := by
    refine ⟨x, x0, by rw [List.getElem?_append_right (by rw [hl]; decide), hl]; rfl, ?_, ?_, ?_⟩
    · rw [List.getElem?_append_left (by rw [hl]; decide)]; exact n_v_some (by rw [hl]; decide) e0
    · show x0.toInt + 0 ≤ x.toInt; omega
    · show x.toInt ≤ x0.toInt + 0; omega
  exact ⟨fun q hq => (by cases hq), [Value.int x], ag_one hx, List.forall_mem_cons.mpr ⟨⟨by decide, nf0⟩, List.forall_mem_cons.mpr ⟨⟨by decide, nf1⟩, List.forall_mem_cons.mpr ⟨⟨by decide, nf2⟩, (fun _ h => (by cases h))⟩⟩⟩, List.forall_mem_cons.mpr ⟨ho, (fun _ h => (by cases h))⟩⟩
def o_Mo_styleTokens_157 : or_T := (21, 13, [(0, (2, 0, 0, [150])), (2, (2, 0, 0, [150])), (5, (0, 0, 1999, [])), (6, (0, 0, 4001, [])), (7, (0, 0, 255, [])), (8, (0, 32, 32, [])), (9, (0, 10, 10, [])), (10, (0, 10, 10, [])), (11, (0, 1, 1, [])), (12, (0, 1, 2000, []))], [(20, [5, 2, 9], [50, 1, 1, 1010, 1001, 4, 11, 0, 6, 4, 2, 1, 0, 0, 1, 2, 1, 10, 1, 2, 1, 2, 9, 5, 3, 1, 1, 1, 0, 0, 256]), (20, [2, 5, 9], [50, 1, 0, 10, 4, 7, 0, 3, 2, 0, 10, 1, 1, 1, 2, 1, 2, 0, -1]), (20, [5, 2, 7], [50, 1, 1, 1010, 1001, 4, 11, 0, 6, 4, 2, 1, 0, 0, 1, 2, 1, 10, 1, 2, 1, 2, 9, 5, 3, 1, 1, 1, 0, 0, 256]), (20, [2, 5, 7], [50, 1, 0, 10, 4, 7, 0, 3, 2, 0, 10, 1, 1, 1, 2, 1, 2, 0, -1]), (24, [0, 2], []), (101, [2, 12], [11]), (1, [12, 5, 11], []), (9, [5, 2], [11]), (7, [9, 10], [0]), (20, [5, 2, 9], [50, 1, 1, 1010, 1001, 4, 11, 0, 6, 4, 2, 1, 0, 0, 1, 2, 1, 10, 1, 2, 1, 2, 9, 5, 3, 1, 1, 1, 0, 0, 256]), (20, [2, 5, 9], [50, 1, 0, 10, 4, 7, 0, 3, 2, 0, 10, 1, 1, 1, 2, 1, 2, 0, -1]), (7, [7, 8], [1]), (20, [5, 2, 7], [50, 1, 1, 1010, 1001, 4, 11, 0, 6, 4, 2, 1, 0, 0, 1, 2, 1, 10, 1, 2, 1, 2, 9, 5, 3, 1, 1, 1, 0, 0, 256]), (20, [2, 5, 7], [50, 1, 0, 10, 4, 7, 0, 3, 2, 0, 10, 1, 1, 1, 2, 1, 2, 0, -1]), (20, [2], [50, 2, 0, 157, 11, 0, 3, 2, 0, 157, 2, 0, 11]), (20, [6, 2], [30, -4001, -1, 0, 0, -2, 1, 11])], [], [], [(20, [2], [50, 2, 0, 157, 11, 0, 3, 2, 0, 157, 2, 0, 11]), (20, [6, 2], [30, -4001, -1, 0, 0, -2, 1, 11])], [], [(12, 5, 1, 1)])
theorem oo_Mo_styleTokens_157 {kA : Nat → ClassId} : or_ok kA GG o_Mo_styleTokens_157 := by
  intro A ta ws vs hD hth hl hk hds hf
  have hl : vs.length = 13 := hl
  have hk : ∀ q ∈ ([(0, (2, 0, 0, [150])), (2, (2, 0, 0, [150])), (5, (0, 0, 1999, [])), (6, (0, 0, 4001, [])), (7, (0, 0, 255, [])), (8, (0, 32, 32, [])), (9, (0, 10, 10, [])), (10, (0, 10, 10, [])), (11, (0, 1, 1, [])), (12, (0, 1, 2000, []))] : List (Nat × tv_T)), tv_ok ta q.2 (n_v vs q.1) := hk
  obtain ⟨t0, hk⟩ := List.forall_mem_cons.mp hk
  have t0 : tv_ok ta (2, 0, 0, [150]) (n_v vs 0) := t0
  have r0 : ta (v_ad (n_v vs 0)) = some 150 := tv_rg t0
  obtain ⟨t2, hk⟩ := List.forall_mem_cons.mp hk
  have t2 : tv_ok ta (2, 0, 0, [150]) (n_v vs 2) := t2
  have r2 : ta (v_ad (n_v vs 2)) = some 150 := tv_rg t2
  obtain ⟨t5, hk⟩ := List.forall_mem_cons.mp hk
  have t5 : tv_ok ta (0, 0, 1999, []) (n_v vs 5) := t5
  have k5 : 0 ≤ v_iv (n_v vs 5) ∧ v_iv (n_v vs 5) ≤ 1999 := tv_rng t5
  obtain ⟨t6, hk⟩ := List.forall_mem_cons.mp hk
  have t6 : tv_ok ta (0, 0, 4001, []) (n_v vs 6) := t6
  have k6 : 0 ≤ v_iv (n_v vs 6) ∧ v_iv (n_v vs 6) ≤ 4001 := tv_rng t6
  obtain ⟨t7, hk⟩ := List.forall_mem_cons.mp hk
  have t7 : tv_ok ta (0, 0, 255, []) (n_v vs 7) := t7
  have k7 : 0 ≤ v_iv (n_v vs 7) ∧ v_iv (n_v vs 7) ≤ 255 := tv_rng t7
  obtain ⟨t8, hk⟩ := List.forall_mem_cons.mp hk
  have t8 : tv_ok ta (0, 32, 32, []) (n_v vs 8) := t8
  have k8 : 32 ≤ v_iv (n_v vs 8) ∧ v_iv (n_v vs 8) ≤ 32 := tv_rng t8
  obtain ⟨t9, hk⟩ := List.forall_mem_cons.mp hk
  have t9 : tv_ok ta (0, 10, 10, []) (n_v vs 9) := t9
  have k9 : 10 ≤ v_iv (n_v vs 9) ∧ v_iv (n_v vs 9) ≤ 10 := tv_rng t9
  obtain ⟨t10, hk⟩ := List.forall_mem_cons.mp hk
  have t10 : tv_ok ta (0, 10, 10, []) (n_v vs 10) := t10
  have k10 : 10 ≤ v_iv (n_v vs 10) ∧ v_iv (n_v vs 10) ≤ 10 := tv_rng t10
  obtain ⟨t11, hk⟩ := List.forall_mem_cons.mp hk
  have t11 : tv_ok ta (0, 1, 1, []) (n_v vs 11) := t11
  have k11 : 1 ≤ v_iv (n_v vs 11) ∧ v_iv (n_v vs 11) ≤ 1 := tv_rng t11
  obtain ⟨t12, hk⟩ := List.forall_mem_cons.mp hk
  have t12 : tv_ok ta (0, 1, 2000, []) (n_v vs 12) := t12
  have k12 : 1 ≤ v_iv (n_v vs 12) ∧ v_iv (n_v vs 12) ≤ 2000 := tv_rng t12
  have hds : ∀ q ∈ ([(12, 5, 1, 1)] : List of_T), n_iv vs q.2.1 + q.2.2.1 ≤ n_iv vs q.1 ∧ n_iv vs q.1 ≤ n_iv vs q.2.1 + q.2.2.2 := hds
  obtain ⟨d0, hds⟩ := List.forall_mem_cons.mp hds
  have d0 : v_iv (n_v vs 5) + 1 ≤ v_iv (n_v vs 12) ∧ v_iv (n_v vs 12) ≤ v_iv (n_v vs 5) + 1 := d0
  have hf : fc_ok [(20, [5, 2, 9], [50, 1, 1, 1010, 1001, 4, 11, 0, 6, 4, 2, 1, 0, 0, 1, 2, 1, 10, 1, 2, 1, 2, 9, 5, 3, 1, 1, 1, 0, 0, 256]), (20, [2, 5, 9], [50, 1, 0, 10, 4, 7, 0, 3, 2, 0, 10, 1, 1, 1, 2, 1, 2, 0, -1]), (20, [5, 2, 7], [50, 1, 1, 1010, 1001, 4, 11, 0, 6, 4, 2, 1, 0, 0, 1, 2, 1, 10, 1, 2, 1, 2, 9, 5, 3, 1, 1, 1, 0, 0, 256]), (20, [2, 5, 7], [50, 1, 0, 10, 4, 7, 0, 3, 2, 0, 10, 1, 1, 1, 2, 1, 2, 0, -1]), (24, [0, 2], []), (101, [2, 12], [11]), (1, [12, 5, 11], []), (9, [5, 2], [11]), (7, [9, 10], [0]), (20, [5, 2, 9], [50, 1, 1, 1010, 1001, 4, 11, 0, 6, 4, 2, 1, 0, 0, 1, 2, 1, 10, 1, 2, 1, 2, 9, 5, 3, 1, 1, 1, 0, 0, 256]), (20, [2, 5, 9], [50, 1, 0, 10, 4, 7, 0, 3, 2, 0, 10, 1, 1, 1, 2, 1, 2, 0, -1]), (7, [7, 8], [1]), (20, [5, 2, 7], [50, 1, 1, 1010, 1001, 4, 11, 0, 6, 4, 2, 1, 0, 0, 1, 2, 1, 10, 1, 2, 1, 2, 9, 5, 3, 1, 1, 1, 0, 0, 256]), (20, [2, 5, 7], [50, 1, 0, 10, 4, 7, 0, 3, 2, 0, 10, 1, 1, 1, 2, 1, 2, 0, -1]), (20, [2], [50, 2, 0, 157, 11, 0, 3, 2, 0, 157, 2, 0, 11]), (20, [6, 2], [30, -4001, -1, 0, 0, -2, 1, 11])] ta ws vs := hf
  obtain ⟨f0, hf⟩ := fc_un (by decide) hf
  have f0 : ((v_iv (n_v vs 5) + 1) ≤ w_fi ws (n_v vs 2) 10) → (v_iv (n_v vs 9) = (w_ei ws (w_ar ws (n_v vs 2) 1) (v_iv (n_v vs 5)) % 256)) := f0
  obtain ⟨f1, hf⟩ := fc_un (by decide) hf
  have f1 : (w_fi ws (n_v vs 2) 10 ≤ v_iv (n_v vs 5)) → (v_iv (n_v vs 9) = (-1)) := f1
  obtain ⟨f2, hf⟩ := fc_un (by decide) hf
  have f2 : ((v_iv (n_v vs 5) + 1) ≤ w_fi ws (n_v vs 2) 10) → (v_iv (n_v vs 7) = (w_ei ws (w_ar ws (n_v vs 2) 1) (v_iv (n_v vs 5)) % 256)) := f2
  obtain ⟨f3, hf⟩ := fc_un (by decide) hf
  have f3 : (w_fi ws (n_v vs 2) 10 ≤ v_iv (n_v vs 5)) → (v_iv (n_v vs 7) = (-1)) := f3
  obtain ⟨f4, hf⟩ := fc_un (by decide) hf
  have f4 : n_v vs 0 = n_v vs 2 := f4
  obtain ⟨ta1, w1, le1, ⟨_, s1⟩, hf⟩ := fc_us (by decide) hf
  have s1 : (∀ b j, w_el ws b j = w_el w1 b j) ∧ ∀ b j, w_fd ws b j = if b = v_ad (n_v vs 2) ∧ j = 11 then n_v vs 12 else w_fd w1 b j := s1
  obtain ⟨f6, hf⟩ := fc_un (by decide) hf
  have f6 : v_iv (n_v vs 12) = v_iv (n_v vs 5) + v_iv (n_v vs 11) := f6
  obtain ⟨f7, hf⟩ := fc_un (by decide) hf
  have f7 : n_v vs 5 = w_fd w1 (v_ad (n_v vs 2)) 11 := f7
  obtain ⟨f8, hf⟩ := fc_un (by decide) hf
  have f8 : v_iv (n_v vs 9) = v_iv (n_v vs 10) := f8
  obtain ⟨f9, hf⟩ := fc_un (by decide) hf
  have f9 : ((v_iv (n_v vs 5) + 1) ≤ w_fi w1 (n_v vs 2) 10) → (v_iv (n_v vs 9) = (w_ei w1 (w_ar w1 (n_v vs 2) 1) (v_iv (n_v vs 5)) % 256)) := f9
  obtain ⟨f10, hf⟩ := fc_un (by decide) hf
  have f10 : (w_fi w1 (n_v vs 2) 10 ≤ v_iv (n_v vs 5)) → (v_iv (n_v vs 9) = (-1)) := f10
  obtain ⟨f11, hf⟩ := fc_un (by decide) hf
  have f11 : v_iv (n_v vs 7) ≠ v_iv (n_v vs 8) := f11
  obtain ⟨f12, hf⟩ := fc_un (by decide) hf
  have f12 : ((v_iv (n_v vs 5) + 1) ≤ w_fi w1 (n_v vs 2) 10) → (v_iv (n_v vs 7) = (w_ei w1 (w_ar w1 (n_v vs 2) 1) (v_iv (n_v vs 5)) % 256)) := f12
  obtain ⟨f13, hf⟩ := fc_un (by decide) hf
  have f13 : (w_fi w1 (n_v vs 2) 10 ≤ v_iv (n_v vs 5)) → (v_iv (n_v vs 7) = (-1)) := f13
  obtain ⟨f14, hf⟩ := fc_un (by decide) hf
  have f14 : w_fi w1 (n_v vs 2) 157 ≤ w_fi w1 (n_v vs 2) 11 := f14
  obtain ⟨f15, hf⟩ := fc_un (by decide) hf
  have f15 : (-1) * v_iv (n_v vs 6) + ((-2) * w_fi w1 (n_v vs 2) 11 + 0) ≤ (-4001) := f15
  have q2 : n_v vs 2 = n_v vs 0 := f4.symm
  rw [q2] at f0
  rw [q2] at f1
  rw [q2] at f2
  rw [q2] at f3
  rw [q2] at s1
  rw [q2] at f7
  rw [q2] at f9
  rw [q2] at f10
  rw [q2] at f12
  rw [q2] at f13
  rw [q2] at f14
  rw [q2] at f15
  have ar_0_1_1 : w_ar w1 (n_v vs 0) 1 = w_ar ws (n_v vs 0) 1 := by show v_ad (w_fd w1 _ _) = v_ad (w_fd ws _ _); rw [s1.2, if_neg (fun e => absurd e.2 (by decide))]
  have cr_0_1 : ta (w_ar ws (n_v vs 0) 1) = some 151 := tv_rg (th_fd hD hth r0 (g := GG_150) rfl (k := 1) (t := (2, 0, 0, [151])) rfl rfl)
  have g7 : v_iv (n_v vs 5) = w_fi w1 (n_v vs 0) 11 := congrArg v_iv f7
  rw [ar_0_1_1] at f9
  rw [ar_0_1_1] at f12
  have fe_0_10_1 : w_fi ws (n_v vs 0) 10 = w_fi w1 (n_v vs 0) 10 := by show v_iv (w_fd _ _ _) = v_iv (w_fd _ _ _); rw [s1.2, if_neg (fun e => absurd e.2 (by decide))]
  have fe_0_11_1 : w_fi ws (n_v vs 0) 11 = v_iv (n_v vs 12) := by show v_iv (w_fd _ _ _) = _; rw [s1.2, if_pos ⟨rfl, rfl⟩]
  have fe_0_157_1 : w_fi ws (n_v vs 0) 157 = w_fi w1 (n_v vs 0) 157 := by show v_iv (w_fd _ _ _) = v_iv (w_fd _ _ _); rw [s1.2, if_neg (fun e => absurd e.2 (by decide))]
  have hE_0_1_1 : ∀ j : Int, w_ei ws (w_ar ws (n_v vs 0) 1) j = w_ei w1 (w_ar ws (n_v vs 0) 1) j := fun j => s1.1 _ _
  have hK_0_1 : ∀ j : Int, 0 ≤ j → j < 2000 → (-128) ≤ w_ei ws (w_ar ws (n_v vs 0) 1) j ∧ w_ei ws (w_ar ws (n_v vs 0) 1) j ≤ 127 := fun j h0 h1 => th_el hD hth cr_0_1 (kd := 1) (n := 2000) (m := 2000) (lo := (-128)) (hi := 127) (rs := []) (L := []) rfl (by decide) (j := j.toNat) (by omega)
  have kz_0_10 : 0 ≤ w_fi ws (n_v vs 0) 10 ∧ w_fi ws (n_v vs 0) 10 ≤ 2000 := tv_rng (th_fd hD hth r0 (g := GG_150) rfl (k := 10) (t := (0, 0, 2000, [])) rfl rfl)
  have kz_0_11 : 0 ≤ w_fi ws (n_v vs 0) 11 ∧ w_fi ws (n_v vs 0) 11 ≤ 2000 := tv_rng (th_fd hD hth r0 (g := GG_150) rfl (k := 11) (t := (0, 0, 2000, [])) rfl rfl)
  have kz_0_157 : 0 ≤ w_fi ws (n_v vs 0) 157 ∧ w_fi ws (n_v vs 0) 157 ≤ 2010 := tv_rng (th_fd hD hth r0 (g := GG_150) rfl (k := 157) (t := (0, 0, 2010, [])) rfl rfl)
  have nf0 : fc_1 (20, [2], [50, 2, 0, 157, 11, 0, 3, 2, 0, 157, 2, 0, 11]) ws (vs) := by
    refine ⟨fun n hn => ?_, ?_⟩
    · have hn : n ∈ [2] := hn
      rw [hl]
      simp only [List.mem_cons, List.not_mem_nil, or_false] at hn
      show n < 13; omega
    · show w_fi ws (n_v vs 2) 157 ≤ w_fi ws (n_v vs 2) 11
      rw [q2]
      first | omega | grind
  have nf1 : fc_1 (20, [6, 2], [30, -4001, -1, 0, 0, -2, 1, 11]) ws (vs) := by
    refine ⟨fun n hn => ?_, ?_⟩
    · have hn : n ∈ [6, 2] := hn
      rw [hl]
      simp only [List.mem_cons, List.not_mem_nil, or_false] at hn
      show n < 13; omega
    · show (-1) * v_iv (n_v vs 6) + ((-2) * w_fi ws (n_v vs 2) 11 + 0) ≤ (-4001)
      rw [q2]
      omega
  refine ⟨(fun _ h => (by cases h)), [], trivial, ?_, (fun _ h => (by cases h))⟩
  rw [List.append_nil]
  exact List.forall_mem_cons.mpr ⟨⟨by decide, nf0⟩, List.forall_mem_cons.mpr ⟨⟨by decide, nf1⟩, (fun _ h => (by cases h))⟩⟩
def o_Mo_styleTokens_158 : or_T := (363, 18, [(0, (2, 0, 0, [150])), (2, (2, 0, 0, [150])), (6, (0, 0, 1999, [])), (9, (0, 9, 2000, [])), (10, (0, 0, 4001, [])), (11, (0, -1, -1, [])), (15, (0, 9, 2000, [])), (16, (0, 8, 8, [])), (17, (0, 4, 4, []))], [(7, [15, 16], [4]), (2, [15, 9, 6], []), (9, [9, 2], [11]), (20, [9, 2, 11], [50, 1, 1, 1010, 1001, 4, 11, 0, 6, 4, 2, 1, 0, 0, 1, 2, 1, 10, 1, 2, 1, 2, 9, 5, 3, 1, 1, 1, 0, 0, 256]), (20, [2, 9, 11], [50, 1, 0, 10, 4, 7, 0, 3, 2, 0, 10, 1, 1, 1, 2, 1, 2, 0, -1]), (20, [2, 6], [50, 3, 1, 157, 11, 10, 1, 2, 7, 0, 3, 2, 0, 157, 1, 1, 2, 7, 0, 2, 1, 1, 2, 0, 11, 3, 11, 0, 6, 4, 2, 1, 1, 0, 1, 2, 0, 11, 2, 7, 1, 3, 2, 0, 11, 1, 1, 2, 11, 0, 6, 4, 2, 1, 1, 0, 1, 2, 0, 10, 2, 13, 0, 2, 0, 97, 9, 5, 3, 0, 1, 1, 1, 0, 256, 0, 9, 9, 5, 3, 0, 1, 1, 1, 0, 256, 0, 122]), (20, [10, 6], [30, -4001, -1, 0, 0, -2, 0, 0]), (24, [0, 2], [])], [], [(0, 0, 4001, [])], [(20, [2, 6, 17], [50, 2, 0, 157, 11, 2, 7, 0, 3, 2, 0, 157, 1, 1, 2, 7, 0, 2, 1, 1, 2, 0, 11, 3, 6, 1, 2, 1, 2, 0, 0, 3, 6, 1, 2, 1, 2, 0, 4, 0, 6, 4, 2, 1, 1, 0, 1, 2, 0, 11]), (20, [18, 6], [30, -4001, -1, 0, 0, -2, 0, 0]), (24, [0, 2], [])], [(18, 10, 0, 0)], [(15, 9, -1999, 0), (6, 9, -4294967296, 0)])
theorem oo_Mo_styleTokens_158 {kA : Nat → ClassId} : or_ok kA GG o_Mo_styleTokens_158 := by
  intro A ta ws vs hD hth hl hk hds hf
  have hl : vs.length = 18 := hl
  have hk : ∀ q ∈ ([(0, (2, 0, 0, [150])), (2, (2, 0, 0, [150])), (6, (0, 0, 1999, [])), (9, (0, 9, 2000, [])), (10, (0, 0, 4001, [])), (11, (0, -1, -1, [])), (15, (0, 9, 2000, [])), (16, (0, 8, 8, [])), (17, (0, 4, 4, []))] : List (Nat × tv_T)), tv_ok ta q.2 (n_v vs q.1) := hk
  obtain ⟨t0, hk⟩ := List.forall_mem_cons.mp hk
  have t0 : tv_ok ta (2, 0, 0, [150]) (n_v vs 0) := t0
  have r0 : ta (v_ad (n_v vs 0)) = some 150 := tv_rg t0
  obtain ⟨t2, hk⟩ := List.forall_mem_cons.mp hk
  have t2 : tv_ok ta (2, 0, 0, [150]) (n_v vs 2) := t2
  have r2 : ta (v_ad (n_v vs 2)) = some 150 := tv_rg t2
  obtain ⟨t6, hk⟩ := List.forall_mem_cons.mp hk
  have t6 : tv_ok ta (0, 0, 1999, []) (n_v vs 6) := t6
  have k6 : 0 ≤ v_iv (n_v vs 6) ∧ v_iv (n_v vs 6) ≤ 1999 := tv_rng t6
  obtain ⟨t9, hk⟩ := List.forall_mem_cons.mp hk
  have t9 : tv_ok ta (0, 9, 2000, []) (n_v vs 9) := t9
  have k9 : 9 ≤ v_iv (n_v vs 9) ∧ v_iv (n_v vs 9) ≤ 2000 := tv_rng t9
  obtain ⟨t10, hk⟩ := List.forall_mem_cons.mp hk
  have t10 : tv_ok ta (0, 0, 4001, []) (n_v vs 10) := t10
  have k10 : 0 ≤ v_iv (n_v vs 10) ∧ v_iv (n_v vs 10) ≤ 4001 := tv_rng t10
  obtain ⟨t11, hk⟩ := List.forall_mem_cons.mp hk
  have t11 : tv_ok ta (0, -1, -1, []) (n_v vs 11) := t11
  have k11 : (-1) ≤ v_iv (n_v vs 11) ∧ v_iv (n_v vs 11) ≤ (-1) := tv_rng t11
  obtain ⟨t15, hk⟩ := List.forall_mem_cons.mp hk
  have t15 : tv_ok ta (0, 9, 2000, []) (n_v vs 15) := t15
  have k15 : 9 ≤ v_iv (n_v vs 15) ∧ v_iv (n_v vs 15) ≤ 2000 := tv_rng t15
  obtain ⟨t16, hk⟩ := List.forall_mem_cons.mp hk
  have t16 : tv_ok ta (0, 8, 8, []) (n_v vs 16) := t16
  have k16 : 8 ≤ v_iv (n_v vs 16) ∧ v_iv (n_v vs 16) ≤ 8 := tv_rng t16
  obtain ⟨t17, hk⟩ := List.forall_mem_cons.mp hk
  have t17 : tv_ok ta (0, 4, 4, []) (n_v vs 17) := t17
  have k17 : 4 ≤ v_iv (n_v vs 17) ∧ v_iv (n_v vs 17) ≤ 4 := tv_rng t17
  have hds : ∀ q ∈ ([(15, 9, -1999, 0), (6, 9, -4294967296, 0)] : List of_T), n_iv vs q.2.1 + q.2.2.1 ≤ n_iv vs q.1 ∧ n_iv vs q.1 ≤ n_iv vs q.2.1 + q.2.2.2 := hds
  obtain ⟨d0, hds⟩ := List.forall_mem_cons.mp hds
  have d0 : v_iv (n_v vs 9) + (-1999) ≤ v_iv (n_v vs 15) ∧ v_iv (n_v vs 15) ≤ v_iv (n_v vs 9) + 0 := d0
  obtain ⟨d1, hds⟩ := List.forall_mem_cons.mp hds
  have d1 : v_iv (n_v vs 9) + (-4294967296) ≤ v_iv (n_v vs 6) ∧ v_iv (n_v vs 6) ≤ v_iv (n_v vs 9) + 0 := d1
  have hf : fc_ok [(7, [15, 16], [4]), (2, [15, 9, 6], []), (9, [9, 2], [11]), (20, [9, 2, 11], [50, 1, 1, 1010, 1001, 4, 11, 0, 6, 4, 2, 1, 0, 0, 1, 2, 1, 10, 1, 2, 1, 2, 9, 5, 3, 1, 1, 1, 0, 0, 256]), (20, [2, 9, 11], [50, 1, 0, 10, 4, 7, 0, 3, 2, 0, 10, 1, 1, 1, 2, 1, 2, 0, -1]), (20, [2, 6], [50, 3, 1, 157, 11, 10, 1, 2, 7, 0, 3, 2, 0, 157, 1, 1, 2, 7, 0, 2, 1, 1, 2, 0, 11, 3, 11, 0, 6, 4, 2, 1, 1, 0, 1, 2, 0, 11, 2, 7, 1, 3, 2, 0, 11, 1, 1, 2, 11, 0, 6, 4, 2, 1, 1, 0, 1, 2, 0, 10, 2, 13, 0, 2, 0, 97, 9, 5, 3, 0, 1, 1, 1, 0, 256, 0, 9, 9, 5, 3, 0, 1, 1, 1, 0, 256, 0, 122]), (20, [10, 6], [30, -4001, -1, 0, 0, -2, 0, 0]), (24, [0, 2], [])] ta ws vs := hf
  obtain ⟨f0, hf⟩ := fc_un (by decide) hf
  have f0 : v_iv (n_v vs 16) < v_iv (n_v vs 15) := f0
  obtain ⟨f1, hf⟩ := fc_un (by decide) hf
  have f1 : v_iv (n_v vs 15) = v_iv (n_v vs 9) - v_iv (n_v vs 6) := f1
  obtain ⟨f2, hf⟩ := fc_un (by decide) hf
  have f2 : n_v vs 9 = w_fd ws (v_ad (n_v vs 2)) 11 := f2
  obtain ⟨f3, hf⟩ := fc_un (by decide) hf
  have f3 : ((v_iv (n_v vs 9) + 1) ≤ w_fi ws (n_v vs 2) 10) → (v_iv (n_v vs 11) = (w_ei ws (w_ar ws (n_v vs 2) 1) (v_iv (n_v vs 9)) % 256)) := f3
  obtain ⟨f4, hf⟩ := fc_un (by decide) hf
  have f4 : (w_fi ws (n_v vs 2) 10 ≤ v_iv (n_v vs 9)) → (v_iv (n_v vs 11) = (-1)) := f4
  obtain ⟨f5, hf⟩ := fc_un (by decide) hf
  have f5 : (w_fi ws (n_v vs 2) 157 ≤ v_iv (n_v vs 6)) ∧ ((v_iv (n_v vs 6) ≤ w_fi ws (n_v vs 2) 11) ∧ (((v_iv (n_v vs 6) + 1) ≤ w_fi ws (n_v vs 2) 11) ∨ ((w_fi ws (n_v vs 2) 11 = v_iv (n_v vs 6)) ∧ (((v_iv (n_v vs 6) + 1) ≤ w_fi ws (n_v vs 2) 10) ∧ ((97 ≤ (w_ei ws (w_ar ws (n_v vs 2) 1) (v_iv (n_v vs 6)) % 256)) ∧ ((w_ei ws (w_ar ws (n_v vs 2) 1) (v_iv (n_v vs 6)) % 256) ≤ 122)))))) := f5
  obtain ⟨f6, hf⟩ := fc_un (by decide) hf
  have f6 : (-1) * v_iv (n_v vs 10) + ((-2) * v_iv (n_v vs 6) + 0) ≤ (-4001) := f6
  obtain ⟨f7, hf⟩ := fc_un (by decide) hf
  have f7 : n_v vs 0 = n_v vs 2 := f7
  have q2 : n_v vs 2 = n_v vs 0 := f7.symm
  rw [q2] at f2
  rw [q2] at f3
  rw [q2] at f4
  rw [q2] at f5
  have cr_0_1 : ta (w_ar ws (n_v vs 0) 1) = some 151 := tv_rg (th_fd hD hth r0 (g := GG_150) rfl (k := 1) (t := (2, 0, 0, [151])) rfl rfl)
  have g2 : v_iv (n_v vs 9) = w_fi ws (n_v vs 0) 11 := congrArg v_iv f2
  have hK_0_1 : ∀ j : Int, 0 ≤ j → j < 2000 → (-128) ≤ w_ei ws (w_ar ws (n_v vs 0) 1) j ∧ w_ei ws (w_ar ws (n_v vs 0) 1) j ≤ 127 := fun j h0 h1 => th_el hD hth cr_0_1 (kd := 1) (n := 2000) (m := 2000) (lo := (-128)) (hi := 127) (rs := []) (L := []) rfl (by decide) (j := j.toNat) (by omega)
  have kz_0_10 : 0 ≤ w_fi ws (n_v vs 0) 10 ∧ w_fi ws (n_v vs 0) 10 ≤ 2000 := tv_rng (th_fd hD hth r0 (g := GG_150) rfl (k := 10) (t := (0, 0, 2000, [])) rfl rfl)
  have kz_0_11 : 0 ≤ w_fi ws (n_v vs 0) 11 ∧ w_fi ws (n_v vs 0) 11 ≤ 2000 := tv_rng (th_fd hD hth r0 (g := GG_150) rfl (k := 11) (t := (0, 0, 2000, [])) rfl rfl)
  have kz_0_157 : 0 ≤ w_fi ws (n_v vs 0) 157 ∧ w_fi ws (n_v vs 0) 157 ≤ 2010 := tv_rng (th_fd hD hth r0 (g := GG_150) rfl (k := 157) (t := (0, 0, 2010, [])) rfl rfl)
  obtain ⟨x, ex, hx⟩ := iv_ex (ta := ta) (lo := 0) (hi := 4001) (z := 0 + (1 * v_iv (n_v vs 10) + 0)) (by omega) (by omega) (by decide) (by decide)
  have ex2 : v_iv (Value.int x) = 0 + (1 * v_iv (n_v vs 10) + 0) := ex
  have ex3 : 0 ≤ v_iv (Value.int x) ∧ v_iv (Value.int x) ≤ 4001 := tv_rng hx
  have e_0 : n_v (vs ++ [Value.int x]) 0 = n_v vs 0 := n_v_old (by rw [hl]; decide)
  have e_2 : n_v (vs ++ [Value.int x]) 2 = n_v vs 2 := n_v_old (by rw [hl]; decide)
  have e_6 : n_v (vs ++ [Value.int x]) 6 = n_v vs 6 := n_v_old (by rw [hl]; decide)
  have e_17 : n_v (vs ++ [Value.int x]) 17 = n_v vs 17 := n_v_old (by rw [hl]; decide)
  have e_18 : n_v (vs ++ [Value.int x]) 18 = Value.int x := n_v_new hl
  have nf0 : fc_1 (20, [2, 6, 17], [50, 2, 0, 157, 11, 2, 7, 0, 3, 2, 0, 157, 1, 1, 2, 7, 0, 2, 1, 1, 2, 0, 11, 3, 6, 1, 2, 1, 2, 0, 0, 3, 6, 1, 2, 1, 2, 0, 4, 0, 6, 4, 2, 1, 1, 0, 1, 2, 0, 11]) ws (vs ++ [Value.int x]) := by
    refine ⟨fun n hn => ?_, ?_⟩
    · have hn : n ∈ [2, 6, 17] := hn
      rw [List.length_append, hl]
      simp only [List.mem_cons, List.not_mem_nil, or_false] at hn
      show n < 18 + 1; omega
    · show (w_fi ws (n_v (vs ++ [Value.int x]) 2) 157 ≤ v_iv (n_v (vs ++ [Value.int x]) 6)) ∧ ((v_iv (n_v (vs ++ [Value.int x]) 6) ≤ w_fi ws (n_v (vs ++ [Value.int x]) 2) 11) ∧ ((v_iv (n_v (vs ++ [Value.int x]) 17) = 0) ∨ ((v_iv (n_v (vs ++ [Value.int x]) 17) = 4) ∨ ((v_iv (n_v (vs ++ [Value.int x]) 6) + 1) ≤ w_fi ws (n_v (vs ++ [Value.int x]) 2) 11))))
      rw [e_2]
      rw [e_6]
      rw [e_17]
      rw [q2]
      first | omega | grind
  have nf1 : fc_1 (20, [18, 6], [30, -4001, -1, 0, 0, -2, 0, 0]) ws (vs ++ [Value.int x]) := by
    refine ⟨fun n hn => ?_, ?_⟩
    · have hn : n ∈ [18, 6] := hn
      rw [List.length_append, hl]
      simp only [List.mem_cons, List.not_mem_nil, or_false] at hn
      show n < 18 + 1; omega
    · show (-1) * v_iv (n_v (vs ++ [Value.int x]) 18) + ((-2) * v_iv (n_v (vs ++ [Value.int x]) 6) + 0) ≤ (-4001)
      rw [e_6]
      rw [e_18]
      omega
  have nf2 : fc_1 (24, [0, 2], []) ws (vs ++ [Value.int x]) := by
    refine ⟨fun n hn => ?_, ?_⟩
    · have hn : n ∈ [0, 2] := hn
      rw [List.length_append, hl]
      simp only [List.mem_cons, List.not_mem_nil, or_false] at hn
      show n < 18 + 1; omega
    · show n_v (vs ++ [Value.int x]) 0 = n_v (vs ++ [Value.int x]) 2
      first | rfl | simp only [e_0, e_2, q2]
  obtain ⟨x0, e0, _, _⟩ := tv_int t10 rfl
  have e1 : v_iv (n_v vs 10) = x0.toInt := by rw [e0]; rfl
  have ho : sy_ofs (vs ++ [Value.int x]) (18, 10, 0, 0) := by
    refine ⟨x, x0, by rw [List.getElem?_append_right (by rw [hl]; decide), hl]; rfl, ?_, ?_, ?_⟩
    · rw [List.getElem?_append_left (by rw [hl]; decide)]; exact n_v_some (by rw [hl]; decide) e0
    · show x0.toInt + 0 ≤ x.toInt; omega
    · show x.toInt ≤ x0.toInt + 0; omega
  exact ⟨fun q hq => (by cases hq), [Value.int x], ag_one hx, List.forall_mem_cons.mpr ⟨⟨by decide, nf0⟩, List.forall_mem_cons.mpr ⟨⟨by decide, nf1⟩, List.forall_mem_cons.mpr ⟨⟨by decide, nf2⟩, (fun _ h => (by cases h))⟩⟩⟩, List.forall_mem_cons.mpr ⟨ho, (fun _ h => (by cases h))⟩⟩
def o_Mo_styleTokens_159 : or_T := (363, 18, [(0, (2, 0, 0, [150])), (2, (2, 0, 0, [150])), (6, (0, 0, 1999, [])), (9, (0, 0, 2000, [])), (10, (0, 0, 4001, [])), (11, (0, -1, -1, [])), (15, (0, 0, 8, [])), (16, (0, 8, 8, [])), (17, (0, 1, 1, []))], [(7, [15, 16], [5]), (2, [15, 9, 6], []), (9, [9, 2], [11]), (20, [9, 2, 11], [50, 1, 1, 1010, 1001, 4, 11, 0, 6, 4, 2, 1, 0, 0, 1, 2, 1, 10, 1, 2, 1, 2, 9, 5, 3, 1, 1, 1, 0, 0, 256]), (20, [2, 9, 11], [50, 1, 0, 10, 4, 7, 0, 3, 2, 0, 10, 1, 1, 1, 2, 1, 2, 0, -1]), (20, [2, 6], [50, 3, 1, 157, 11, 10, 1, 2, 7, 0, 3, 2, 0, 157, 1, 1, 2, 7, 0, 2, 1, 1, 2, 0, 11, 3, 11, 0, 6, 4, 2, 1, 1, 0, 1, 2, 0, 11, 2, 7, 1, 3, 2, 0, 11, 1, 1, 2, 11, 0, 6, 4, 2, 1, 1, 0, 1, 2, 0, 10, 2, 13, 0, 2, 0, 97, 9, 5, 3, 0, 1, 1, 1, 0, 256, 0, 9, 9, 5, 3, 0, 1, 1, 1, 0, 256, 0, 122]), (20, [10, 6], [30, -4001, -1, 0, 0, -2, 0, 0]), (24, [0, 2], [])], [], [(0, 0, 4001, [])], [(20, [2, 6, 17], [50, 2, 0, 157, 11, 2, 7, 0, 3, 2, 0, 157, 1, 1, 2, 7, 0, 2, 1, 1, 2, 0, 11, 3, 6, 1, 2, 1, 2, 0, 0, 3, 6, 1, 2, 1, 2, 0, 4, 0, 6, 4, 2, 1, 1, 0, 1, 2, 0, 11]), (20, [18, 6], [30, -4001, -1, 0, 0, -2, 0, 0]), (24, [0, 2], [])], [(18, 10, 0, 0)], [(15, 9, -1999, 0), (6, 9, -4294967296, 0)])
theorem oo_Mo_styleTokens_159 {kA : Nat → ClassId} : or_ok kA GG o_Mo_styleTokens_159 := by
  intro A ta ws vs hD hth hl hk hds hf
  have hl : vs.length = 18 := hl
  have hk : ∀ q ∈ ([(0, (2, 0, 0, [150])), (2, (2, 0, 0, [150])), (6, (0, 0, 1999, [])), (9, (0, 0, 2000, [])), (10, (0, 0, 4001, [])), (11, (0, -1, -1, [])), (15, (0, 0, 8, [])), (16, (0, 8, 8, [])), (17, (0, 1, 1, []))] : List (Nat × tv_T)), tv_ok ta q.2 (n_v vs q.1) := hk
  obtain ⟨t0, hk⟩ := List.forall_mem_cons.mp hk
  have t0 : tv_ok ta (2, 0, 0, [150]) (n_v vs 0) := t0
  have r0 : ta (v_ad (n_v vs 0)) = some 150 := tv_rg t0
  obtain ⟨t2, hk⟩ := List.forall_mem_cons.mp hk
  have t2 : tv_ok ta (2, 0, 0, [150]) (n_v vs 2) := t2
  have r2 : ta (v_ad (n_v vs 2)) = some 150 := tv_rg t2
  obtain ⟨t6, hk⟩ := List.forall_mem_cons.mp hk
  have t6 : tv_ok ta (0, 0, 1999, []) (n_v vs 6) := t6
  have k6 : 0 ≤ v_iv (n_v vs 6) ∧ v_iv (n_v vs 6) ≤ 1999 := tv_rng t6
  obtain ⟨t9, hk⟩ := List.forall_mem_cons.mp hk
  have t9 : tv_ok ta (0, 0, 2000, []) (n_v vs 9) := t9
  have k9 : 0 ≤ v_iv (n_v vs 9) ∧ v_iv (n_v vs 9) ≤ 2000 := tv_rng t9
  obtain ⟨t10, hk⟩ := List.forall_mem_cons.mp hk
  have t10 : tv_ok ta (0, 0, 4001, []) (n_v vs 10) := t10
  have k10 : 0 ≤ v_iv (n_v vs 10) ∧ v_iv (n_v vs 10) ≤ 4001 := tv_rng t10
  obtain ⟨t11, hk⟩ := List.forall_mem_cons.mp hk
  have t11 : tv_ok ta (0, -1, -1, []) (n_v vs 11) := t11
  have k11 : (-1) ≤ v_iv (n_v vs 11) ∧ v_iv (n_v vs 11) ≤ (-1) := tv_rng t11
  obtain ⟨t15, hk⟩ := List.forall_mem_cons.mp hk
  have t15 : tv_ok ta (0, 0, 8, []) (n_v vs 15) := t15
  have k15 : 0 ≤ v_iv (n_v vs 15) ∧ v_iv (n_v vs 15) ≤ 8 := tv_rng t15
  obtain ⟨t16, hk⟩ := List.forall_mem_cons.mp hk
  have t16 : tv_ok ta (0, 8, 8, []) (n_v vs 16) := t16
  have k16 : 8 ≤ v_iv (n_v vs 16) ∧ v_iv (n_v vs 16) ≤ 8 := tv_rng t16
  obtain ⟨t17, hk⟩ := List.forall_mem_cons.mp hk
  have t17 : tv_ok ta (0, 1, 1, []) (n_v vs 17) := t17
  have k17 : 1 ≤ v_iv (n_v vs 17) ∧ v_iv (n_v vs 17) ≤ 1 := tv_rng t17
  have hds : ∀ q ∈ ([(15, 9, -1999, 0), (6, 9, -4294967296, 0)] : List of_T), n_iv vs q.2.1 + q.2.2.1 ≤ n_iv vs q.1 ∧ n_iv vs q.1 ≤ n_iv vs q.2.1 + q.2.2.2 := hds
  obtain ⟨d0, hds⟩ := List.forall_mem_cons.mp hds
  have d0 : v_iv (n_v vs 9) + (-1999) ≤ v_iv (n_v vs 15) ∧ v_iv (n_v vs 15) ≤ v_iv (n_v vs 9) + 0 := d0
  obtain ⟨d1, hds⟩ := List.forall_mem_cons.mp hds
  have d1 : v_iv (n_v vs 9) + (-4294967296) ≤ v_iv (n_v vs 6) ∧ v_iv (n_v vs 6) ≤ v_iv (n_v vs 9) + 0 := d1
  have hf : fc_ok [(7, [15, 16], [5]), (2, [15, 9, 6], []), (9, [9, 2], [11]), (20, [9, 2, 11], [50, 1, 1, 1010, 1001, 4, 11, 0, 6, 4, 2, 1, 0, 0, 1, 2, 1, 10, 1, 2, 1, 2, 9, 5, 3, 1, 1, 1, 0, 0, 256]), (20, [2, 9, 11], [50, 1, 0, 10, 4, 7, 0, 3, 2, 0, 10, 1, 1, 1, 2, 1, 2, 0, -1]), (20, [2, 6], [50, 3, 1, 157, 11, 10, 1, 2, 7, 0, 3, 2, 0, 157, 1, 1, 2, 7, 0, 2, 1, 1, 2, 0, 11, 3, 11, 0, 6, 4, 2, 1, 1, 0, 1, 2, 0, 11, 2, 7, 1, 3, 2, 0, 11, 1, 1, 2, 11, 0, 6, 4, 2, 1, 1, 0, 1, 2, 0, 10, 2, 13, 0, 2, 0, 97, 9, 5, 3, 0, 1, 1, 1, 0, 256, 0, 9, 9, 5, 3, 0, 1, 1, 1, 0, 256, 0, 122]), (20, [10, 6], [30, -4001, -1, 0, 0, -2, 0, 0]), (24, [0, 2], [])] ta ws vs := hf
  obtain ⟨f0, hf⟩ := fc_un (by decide) hf
  have f0 : v_iv (n_v vs 15) ≤ v_iv (n_v vs 16) := f0
  obtain ⟨f1, hf⟩ := fc_un (by decide) hf
  have f1 : v_iv (n_v vs 15) = v_iv (n_v vs 9) - v_iv (n_v vs 6) := f1
  obtain ⟨f2, hf⟩ := fc_un (by decide) hf
  have f2 : n_v vs 9 = w_fd ws (v_ad (n_v vs 2)) 11 := f2
  obtain ⟨f3, hf⟩ := fc_un (by decide) hf
  have f3 : ((v_iv (n_v vs 9) + 1) ≤ w_fi ws (n_v vs 2) 10) → (v_iv (n_v vs 11) = (w_ei ws (w_ar ws (n_v vs 2) 1) (v_iv (n_v vs 9)) % 256)) := f3
  obtain ⟨f4, hf⟩ := fc_un (by decide) hf
  have f4 : (w_fi ws (n_v vs 2) 10 ≤ v_iv (n_v vs 9)) → (v_iv (n_v vs 11) = (-1)) := f4
  obtain ⟨f5, hf⟩ := fc_un (by decide) hf
  have f5 : (w_fi ws (n_v vs 2) 157 ≤ v_iv (n_v vs 6)) ∧ ((v_iv (n_v vs 6) ≤ w_fi ws (n_v vs 2) 11) ∧ (((v_iv (n_v vs 6) + 1) ≤ w_fi ws (n_v vs 2) 11) ∨ ((w_fi ws (n_v vs 2) 11 = v_iv (n_v vs 6)) ∧ (((v_iv (n_v vs 6) + 1) ≤ w_fi ws (n_v vs 2) 10) ∧ ((97 ≤ (w_ei ws (w_ar ws (n_v vs 2) 1) (v_iv (n_v vs 6)) % 256)) ∧ ((w_ei ws (w_ar ws (n_v vs 2) 1) (v_iv (n_v vs 6)) % 256) ≤ 122)))))) := f5
  obtain ⟨f6, hf⟩ := fc_un (by decide) hf
  have f6 : (-1) * v_iv (n_v vs 10) + ((-2) * v_iv (n_v vs 6) + 0) ≤ (-4001) := f6
  obtain ⟨f7, hf⟩ := fc_un (by decide) hf
  have f7 : n_v vs 0 = n_v vs 2 := f7
  have q2 : n_v vs 2 = n_v vs 0 := f7.symm
  rw [q2] at f2
  rw [q2] at f3
  rw [q2] at f4
  rw [q2] at f5
  have cr_0_1 : ta (w_ar ws (n_v vs 0) 1) = some 151 := tv_rg (th_fd hD hth r0 (g := GG_150) rfl (k := 1) (t := (2, 0, 0, [151])) rfl rfl)
  have g2 : v_iv (n_v vs 9) = w_fi ws (n_v vs 0) 11 := congrArg v_iv f2
  have hK_0_1 : ∀ j : Int, 0 ≤ j → j < 2000 → (-128) ≤ w_ei ws (w_ar ws (n_v vs 0) 1) j ∧ w_ei ws (w_ar ws (n_v vs 0) 1) j ≤ 127 := fun j h0 h1 => th_el hD hth cr_0_1 (kd := 1) (n := 2000) (m := 2000) (lo := (-128)) (hi := 127) (rs := []) (L := []) rfl (by decide) (j := j.toNat) (by omega)
  have kz_0_10 : 0 ≤ w_fi ws (n_v vs 0) 10 ∧ w_fi ws (n_v vs 0) 10 ≤ 2000 := tv_rng (th_fd hD hth r0 (g := GG_150) rfl (k := 10) (t := (0, 0, 2000, [])) rfl rfl)
  have kz_0_11 : 0 ≤ w_fi ws (n_v vs 0) 11 ∧ w_fi ws (n_v vs 0) 11 ≤ 2000 := tv_rng (th_fd hD hth r0 (g := GG_150) rfl (k := 11) (t := (0, 0, 2000, [])) rfl rfl)
  have kz_0_157 : 0 ≤ w_fi ws (n_v vs 0) 157 ∧ w_fi ws (n_v vs 0) 157 ≤ 2010 := tv_rng (th_fd hD hth r0 (g := GG_150) rfl (k := 157) (t := (0, 0, 2010, [])) rfl rfl)
  obtain ⟨x, ex, hx⟩ := iv_ex (ta := ta) (lo := 0) (hi := 4001) (z := 0 + (1 * v_iv (n_v vs 10) + 0)) (by omega) (by omega) (by decide) (by decide)
  have ex2 : v_iv (Value.int x) = 0 + (1 * v_iv (n_v vs 10) + 0) := ex
  have ex3 : 0 ≤ v_iv (Value.int x) ∧ v_iv (Value.int x) ≤ 4001 := tv_rng hx
  have e_0 : n_v (vs ++ [Value.int x]) 0 = n_v vs 0 := n_v_old (by rw [hl]; decide)
  have e_2 : n_v (vs ++ [Value.int x]) 2 = n_v vs 2 := n_v_old (by rw [hl]; decide)
  have e_6 : n_v (vs ++ [Value.int x]) 6 = n_v vs 6 := n_v_old (by rw [hl]; decide)
  have e_17 : n_v (vs ++ [Value.int x]) 17 = n_v vs 17 := n_v_old (by rw [hl]; decide)
  have e_18 : n_v (vs ++ [Value.int x]) 18 = Value.int x := n_v_new hl
  have nf0 : fc_1 (20, [2, 6, 17], [50, 2, 0, 157, 11, 2, 7, 0, 3, 2, 0, 157, 1, 1, 2, 7, 0, 2, 1, 1, 2, 0, 11, 3, 6, 1, 2, 1, 2, 0, 0, 3, 6, 1, 2, 1, 2, 0, 4, 0, 6, 4, 2, 1, 1, 0, 1, 2, 0, 11]) ws (vs ++ [Value.int x]) := by
    refine ⟨fun n hn => ?_, ?_⟩
    · have hn : n ∈ [2, 6, 17] := hn
      rw [List.length_append, hl]
      simp only [List.mem_cons, List.not_mem_nil, or_false] at hn
      show n < 18 + 1; omega
    · show (w_fi ws (n_v (vs ++ [Value.int x]) 2) 157 ≤ v_iv (n_v (vs ++ [Value.int x]) 6)) ∧ ((v_iv (n_v (vs ++ [Value.int x]) 6) ≤ w_fi ws (n_v (vs ++ [Value.int x]) 2) 11) ∧ ((v_iv (n_v (vs ++ [Value.int x]) 17) = 0) ∨ ((v_iv (n_v (vs ++ [Value.int x]) 17) = 4) ∨ ((v_iv (n_v (vs ++ [Value.int x]) 6) + 1) ≤ w_fi ws (n_v (vs ++ [Value.int x]) 2) 11))))
      rw [e_2]
      rw [e_6]
      rw [e_17]
      rw [q2]
      first | omega | grind
  have nf1 : fc_1 (20, [18, 6], [30, -4001, -1, 0, 0, -2, 0, 0]) ws (vs ++ [Value.int x]) := by
    refine ⟨fun n hn => ?_, ?_⟩
    · have hn : n ∈ [18, 6] := hn
      rw [List.length_append, hl]
      simp only [List.mem_cons, List.not_mem_nil, or_false] at hn
      show n < 18 + 1; omega
    · show (-1) * v_iv (n_v (vs ++ [Value.int x]) 18) + ((-2) * v_iv (n_v (vs ++ [Value.int x]) 6) + 0) ≤ (-4001)
      rw [e_6]
      rw [e_18]
      omega
  have nf2 : fc_1 (24, [0, 2], []) ws (vs ++ [Value.int x]) := by
    refine ⟨fun n hn => ?_, ?_⟩
    · have hn : n ∈ [0, 2] := hn
      rw [List.length_append, hl]
      simp only [List.mem_cons, List.not_mem_nil, or_false] at hn
      show n < 18 + 1; omega
    · show n_v (vs ++ [Value.int x]) 0 = n_v (vs ++ [Value.int x]) 2
      first | rfl | simp only [e_0, e_2, q2]
  obtain ⟨x0, e0, _, _⟩ := tv_int t10 rfl
  have e1 : v_iv (n_v vs 10) = x0.toInt := by rw [e0]; rfl
  have ho : sy_ofs (vs ++ [Value.int x]) (18, 10, 0, 0) := by
    refine ⟨x, x0, by rw [List.getElem?_append_right (by rw [hl]; decide), hl]; rfl, ?_, ?_, ?_⟩
    · rw [List.getElem?_append_left (by rw [hl]; decide)]; exact n_v_some (by rw [hl]; decide) e0
    · show x0.toInt + 0 ≤ x.toInt; omega
    · show x.toInt ≤ x0.toInt + 0; omega
  exact ⟨fun q hq => (by cases hq), [Value.int x], ag_one hx, List.forall_mem_cons.mpr ⟨⟨by decide, nf0⟩, List.forall_mem_cons.mpr ⟨⟨by decide, nf1⟩, List.forall_mem_cons.mpr ⟨⟨by decide, nf2⟩, (fun _ h => (by cases h))⟩⟩⟩, List.forall_mem_cons.mpr ⟨ho, (fun _ h => (by cases h))⟩⟩
def o_Mo_styleTokens_160 : or_T := (363, 18, [(0, (2, 0, 0, [150])), (2, (2, 0, 0, [150])), (6, (0, 0, 1999, [])), (9, (0, 9, 1999, [])), (10, (0, 0, 4001, [])), (11, (0, 0, 96, [])), (15, (0, 9, 1999, [])), (16, (0, 8, 8, [])), (17, (0, 4, 4, []))], [(7, [15, 16], [4]), (2, [15, 9, 6], []), (9, [9, 2], [11]), (20, [9, 2, 11], [50, 1, 1, 1010, 1001, 4, 11, 0, 6, 4, 2, 1, 0, 0, 1, 2, 1, 10, 1, 2, 1, 2, 9, 5, 3, 1, 1, 1, 0, 0, 256]), (20, [2, 9, 11], [50, 1, 0, 10, 4, 7, 0, 3, 2, 0, 10, 1, 1, 1, 2, 1, 2, 0, -1]), (20, [2, 6], [50, 3, 1, 157, 11, 10, 1, 2, 7, 0, 3, 2, 0, 157, 1, 1, 2, 7, 0, 2, 1, 1, 2, 0, 11, 3, 11, 0, 6, 4, 2, 1, 1, 0, 1, 2, 0, 11, 2, 7, 1, 3, 2, 0, 11, 1, 1, 2, 11, 0, 6, 4, 2, 1, 1, 0, 1, 2, 0, 10, 2, 13, 0, 2, 0, 97, 9, 5, 3, 0, 1, 1, 1, 0, 256, 0, 9, 9, 5, 3, 0, 1, 1, 1, 0, 256, 0, 122]), (20, [10, 6], [30, -4001, -1, 0, 0, -2, 0, 0]), (24, [0, 2], [])], [], [(0, 0, 4001, [])], [(20, [2, 6, 17], [50, 2, 0, 157, 11, 2, 7, 0, 3, 2, 0, 157, 1, 1, 2, 7, 0, 2, 1, 1, 2, 0, 11, 3, 6, 1, 2, 1, 2, 0, 0, 3, 6, 1, 2, 1, 2, 0, 4, 0, 6, 4, 2, 1, 1, 0, 1, 2, 0, 11]), (20, [18, 6], [30, -4001, -1, 0, 0, -2, 0, 0]), (24, [0, 2], [])], [(18, 10, 0, 0)], [(15, 9, -1999, 0), (6, 9, -4294967296, 0)])
theorem oo_Mo_styleTokens_160 {kA : Nat → ClassId} : or_ok kA GG o_Mo_styleTokens_160 := by
  intro A ta ws vs hD hth hl hk hds hf
  have hl : vs.length = 18 := hl
  have hk : ∀ q ∈ ([(0, (2, 0, 0, [150])), (2, (2, 0, 0, [150])), (6, (0, 0, 1999, [])), (9, (0, 9, 1999, [])), (10, (0, 0, 4001, [])), (11, (0, 0, 96, [])), (15, (0, 9, 1999, [])), (16, (0, 8, 8, [])), (17, (0, 4, 4, []))] : List (Nat × tv_T)), tv_ok ta q.2 (n_v vs q.1) := hk
  obtain ⟨t0, hk⟩ := List.forall_mem_cons.mp hk
  have t0 : tv_ok ta (2, 0, 0, [150]) (n_v vs 0) := t0
  have r0 : ta (v_ad (n_v vs 0)) = some 150 := tv_rg t0
  obtain ⟨t2, hk⟩ := List.forall_mem_cons.mp hk
  have t2 : tv_ok ta (2, 0, 0, [150]) (n_v vs 2) := t2
  have r2 : ta (v_ad (n_v vs 2)) = some 150 := tv_rg t2
  obtain ⟨t6, hk⟩ := List.forall_mem_cons.mp hk
  have t6 : tv_ok ta (0, 0, 1999, []) (n_v vs 6) := t6
  have k6 : 0 ≤ v_iv (n_v vs 6) ∧ v_iv (n_v vs 6) ≤ 1999 := tv_rng t6
  obtain ⟨t9, hk⟩ := List.forall_mem_cons.mp hk
  have t9 : tv_ok ta (0, 9, 1999, []) (n_v vs 9) := t9
  have k9 : 9 ≤ v_iv (n_v vs 9) ∧ v_iv (n_v vs 9) ≤ 1999 := tv_rng t9
  obtain ⟨t10, hk⟩ := List.forall_mem_cons.mp hk
  have t10 : tv_ok ta (0, 0, 4001, []) (n_v vs 10) := t10
  have k10 : 0 ≤ v_iv (n_v vs 10) ∧ v_iv (n_v vs 10) ≤ 4001 := tv_rng t10
  obtain ⟨t11, hk⟩ := List.forall_mem_cons.mp hk
  have t11 : tv_ok ta (0, 0, 96, []) (n_v vs 11) := t11
  have k11 : 0 ≤ v_iv (n_v vs 11) ∧ v_iv (n_v vs 11) ≤ 96 := tv_rng t11
  obtain ⟨t15, hk⟩ := List.forall_mem_cons.mp hk
  have t15 : tv_ok ta (0, 9, 1999, []) (n_v vs 15) := t15
  have k15 : 9 ≤ v_iv (n_v vs 15) ∧ v_iv (n_v vs 15) ≤ 1999 := tv_rng t15
  obtain ⟨t16, hk⟩ := List.forall_mem_cons.mp hk
  have t16 : tv_ok ta (0, 8, 8, []) (n_v vs 16) := t16
  have k16 : 8 ≤ v_iv (n_v vs 16) ∧ v_iv (n_v vs 16) ≤ 8 := tv_rng t16
  obtain ⟨t17, hk⟩ := List.forall_mem_cons.mp hk
  have t17 : tv_ok ta (0, 4, 4, []) (n_v vs 17) := t17
  have k17 : 4 ≤ v_iv (n_v vs 17) ∧ v_iv (n_v vs 17) ≤ 4 := tv_rng t17
  have hds : ∀ q ∈ ([(15, 9, -1999, 0), (6, 9, -4294967296, 0)] : List of_T), n_iv vs q.2.1 + q.2.2.1 ≤ n_iv vs q.1 ∧ n_iv vs q.1 ≤ n_iv vs q.2.1 + q.2.2.2 := hds
  obtain ⟨d0, hds⟩ := List.forall_mem_cons.mp hds
  have d0 : v_iv (n_v vs 9) + (-1999) ≤ v_iv (n_v vs 15) ∧ v_iv (n_v vs 15) ≤ v_iv (n_v vs 9) + 0 := d0
  obtain ⟨d1, hds⟩ := List.forall_mem_cons.mp hds
  have d1 : v_iv (n_v vs 9) + (-4294967296) ≤ v_iv (n_v vs 6) ∧ v_iv (n_v vs 6) ≤ v_iv (n_v vs 9) + 0 := d1
  have hf : fc_ok [(7, [15, 16], [4]), (2, [15, 9, 6], []), (9, [9, 2], [11]), (20, [9, 2, 11], [50, 1, 1, 1010, 1001, 4, 11, 0, 6, 4, 2, 1, 0, 0, 1, 2, 1, 10, 1, 2, 1, 2, 9, 5, 3, 1, 1, 1, 0, 0, 256]), (20, [2, 9, 11], [50, 1, 0, 10, 4, 7, 0, 3, 2, 0, 10, 1, 1, 1, 2, 1, 2, 0, -1]), (20, [2, 6], [50, 3, 1, 157, 11, 10, 1, 2, 7, 0, 3, 2, 0, 157, 1, 1, 2, 7, 0, 2, 1, 1, 2, 0, 11, 3, 11, 0, 6, 4, 2, 1, 1, 0, 1, 2, 0, 11, 2, 7, 1, 3, 2, 0, 11, 1, 1, 2, 11, 0, 6, 4, 2, 1, 1, 0, 1, 2, 0, 10, 2, 13, 0, 2, 0, 97, 9, 5, 3, 0, 1, 1, 1, 0, 256, 0, 9, 9, 5, 3, 0, 1, 1, 1, 0, 256, 0, 122]), (20, [10, 6], [30, -4001, -1, 0, 0, -2, 0, 0]), (24, [0, 2], [])] ta ws vs := hf
  obtain ⟨f0, hf⟩ := fc_un (by decide) hf
  have f0 : v_iv (n_v vs 16) < v_iv (n_v vs 15) := f0
  obtain ⟨f1, hf⟩ := fc_un (by decide) hf
  have f1 : v_iv (n_v vs 15) = v_iv (n_v vs 9) - v_iv (n_v vs 6) := f1
  obtain ⟨f2, hf⟩ := fc_un (by decide) hf
  have f2 : n_v vs 9 = w_fd ws (v_ad (n_v vs 2)) 11 := f2
  obtain ⟨f3, hf⟩ := fc_un (by decide) hf
  have f3 : ((v_iv (n_v vs 9) + 1) ≤ w_fi ws (n_v vs 2) 10) → (v_iv (n_v vs 11) = (w_ei ws (w_ar ws (n_v vs 2) 1) (v_iv (n_v vs 9)) % 256)) := f3
  obtain ⟨f4, hf⟩ := fc_un (by decide) hf
  have f4 : (w_fi ws (n_v vs 2) 10 ≤ v_iv (n_v vs 9)) → (v_iv (n_v vs 11) = (-1)) := f4
  obtain ⟨f5, hf⟩ := fc_un (by decide) hf
  have f5 : (w_fi ws (n_v vs 2) 157 ≤ v_iv (n_v vs 6)) ∧ ((v_iv (n_v vs 6) ≤ w_fi ws (n_v vs 2) 11) ∧ (((v_iv (n_v vs 6) + 1) ≤ w_fi ws (n_v vs 2) 11) ∨ ((w_fi ws (n_v vs 2) 11 = v_iv (n_v vs 6)) ∧ (((v_iv (n_v vs 6) + 1) ≤ w_fi ws (n_v vs 2) 10) ∧ ((97 ≤ (w_ei ws (w_ar ws (n_v vs 2) 1) (v_iv (n_v vs 6)) % 256)) ∧ ((w_ei ws (w_ar ws (n_v vs 2) 1) (v_iv (n_v vs 6)) % 256) ≤ 122)))))) := f5
  obtain ⟨f6, hf⟩ := fc_un (by decide) hf
  have f6 : (-1) * v_iv (n_v vs 10) + ((-2) * v_iv (n_v vs 6) + 0) ≤ (-4001) := f6
  obtain ⟨f7, hf⟩ := fc_un (by decide) hf
  have f7 : n_v vs 0 = n_v vs 2 := f7
  have q2 : n_v vs 2 = n_v vs 0 := f7.symm
  rw [q2] at f2
  rw [q2] at f3
  rw [q2] at f4
  rw [q2] at f5
  have cr_0_1 : ta (w_ar ws (n_v vs 0) 1) = some 151 := tv_rg (th_fd hD hth r0 (g := GG_150) rfl (k := 1) (t := (2, 0, 0, [151])) rfl rfl)
  have g2 : v_iv (n_v vs 9) = w_fi ws (n_v vs 0) 11 := congrArg v_iv f2
  have hK_0_1 : ∀ j : Int, 0 ≤ j → j < 2000 → (-128) ≤ w_ei ws (w_ar ws (n_v vs 0) 1) j ∧ w_ei ws (w_ar ws (n_v vs 0) 1) j ≤ 127 := fun j h0 h1 => th_el hD hth cr_0_1 (kd := 1) (n := 2000) (m := 2000) (lo := (-128)) (hi := 127) (rs := []) (L := []) rfl (by decide) (j := j.toNat) (by omega)
  have kz_0_10 : 0 ≤ w_fi ws (n_v vs 0) 10 ∧ w_fi ws (n_v vs 0) 10 ≤ 2000 := tv_rng (th_fd hD hth r0 (g := GG_150) rfl (k := 10) (t := (0, 0, 2000, [])) rfl rfl)
  have kz_0_11 : 0 ≤ w_fi ws (n_v vs 0) 11 ∧ w_fi ws (n_v vs 0) 11 ≤ 2000 := tv_rng (th_fd hD hth r0 (g := GG_150) rfl (k := 11) (t := (0, 0, 2000, [])) rfl rfl)
  have kz_0_157 : 0 ≤ w_fi ws (n_v vs 0) 157 ∧ w_fi ws (n_v vs 0) 157 ≤ 2010 := tv_rng (th_fd hD hth r0 (g := GG_150) rfl (k := 157) (t := (0, 0, 2010, [])) rfl rfl)
  obtain ⟨x, ex, hx⟩ := iv_ex (ta := ta) (lo := 0) (hi := 4001) (z := 0 + (1 * v_iv (n_v vs 10) + 0)) (by omega) (by omega) (by decide) (by decide)
  have ex2 : v_iv (Value.int x) = 0 + (1 * v_iv (n_v vs 10) + 0) := ex
  have ex3 : 0 ≤ v_iv (Value.int x) ∧ v_iv (Value.int x) ≤ 4001 := tv_rng hx
  have e_0 : n_v (vs ++ [Value.int x]) 0 = n_v vs 0 := n_v_old (by rw [hl]; decide)
  have e_2 : n_v (vs ++ [Value.int x]) 2 = n_v vs 2 := n_v_old (by rw [hl]; decide)
  have e_6 : n_v (vs ++ [Value.int x]) 6 = n_v vs 6 := n_v_old (by rw [hl]; decide)
  have e_17 : n_v (vs ++ [Value.int x]) 17 = n_v vs 17 := n_v_old (by rw [hl]; decide)
  have e_18 : n_v (vs ++ [Value.int x]) 18 = Value.int x := n_v_new hl
  have nf0 : fc_1 (20, [2, 6, 17], [50, 2, 0, 157, 11, 2, 7, 0, 3, 2, 0, 157, 1, 1, 2, 7, 0, 2, 1, 1, 2, 0, 11, 3, 6, 1, 2, 1, 2, 0, 0, 3, 6, 1, 2, 1, 2, 0, 4, 0, 6, 4, 2, 1, 1, 0, 1, 2, 0, 11]) ws (vs ++ [Value.int x]) := by
    refine ⟨fun n hn => ?_, ?_⟩
    · have hn : n ∈ [2, 6, 17] := hn
      rw [List.length_append, hl]
      simp only [List.mem_cons, List.not_mem_nil, or_false] at hn
      show n < 18 + 1; omega
    · show (w_fi ws (n_v (vs ++ [Value.int x]) 2) 157 ≤ v_iv (n_v (vs ++ [Value.int x]) 6)) ∧ ((v_iv (n_v (vs ++ [Value.int x]) 6) ≤ w_fi ws (n_v (vs ++ [Value.int x]) 2) 11) ∧ ((v_iv (n_v (vs ++ [Value.int x]) 17) = 0) ∨ ((v_iv (n_v (vs ++ [Value.int x]) 17) = 4) ∨ ((v_iv (n_v (vs ++ [Value.int x]) 6) + 1) ≤ w_fi ws (n_v (vs ++ [Value.int x]) 2) 11))))
      rw [e_2]
      rw [e_6]
      rw [e_17]
      rw [q2]
      first | omega | grind
  have nf1 : fc_1 (20, [18, 6], [30, -4001, -1, 0, 0, -2, 0, 0]) ws (vs ++ [Value.int x]) := by
    refine ⟨fun n hn => ?_, ?_⟩
    · have hn : n ∈ [18, 6] := hn
      rw [List.length_append, hl]
      simp only [List.mem_cons, List.not_mem_nil, or_false] at hn
      show n < 18 + 1; omega
    · show (-1) * v_iv (n_v (vs ++ [Value.int x]) 18) + ((-2) * v_iv (n_v (vs ++ [Value.int x]) 6) + 0) ≤ (-4001)
      rw [e_6]
      rw [e_18]
      omega
  have nf2 : fc_1 (24, [0, 2], []) ws (vs ++ [Value.int x]) := by
    refine ⟨fun n hn => ?_, ?_⟩
    · have hn : n ∈ [0, 2] := hn
      rw [List.length_append, hl]
      simp only [List.mem_cons, List.not_mem_nil, or_false] at hn
      show n < 18 + 1; omega
    · show n_v (vs ++ [Value.int x]) 0 = n_v (vs ++ [Value.int x]) 2
      first | rfl | simp only [e_0, e_2, q2]
  obtain ⟨x0, e0, _, _⟩ := tv_int t10 rfl
  have e1 : v_iv (n_v vs 10) = x0.toInt := by rw [e0]; rfl
  have ho : sy_ofs (vs ++ [Value.int x]) (18, 10, 0, 0) := by
    refine ⟨x, x0, by rw [List.getElem?_append_right (by rw [hl]; decide), hl]; rfl, ?_, ?_, ?_⟩
    · rw [List.getElem?_append_left (by rw [hl]; decide)]; exact n_v_some (by rw [hl]; decide) e0
    · show x0.toInt + 0 ≤ x.toInt; omega
    · show x.toInt ≤ x0.toInt + 0; omega
  exact ⟨fun q hq => (by cases hq), [Value.int x], ag_one hx, List.forall_mem_cons.mpr ⟨⟨by decide, nf0⟩, List.forall_mem_cons.mpr ⟨⟨by decide, nf1⟩, List.forall_mem_cons.mpr ⟨⟨by decide, nf2⟩, (fun _ h => (by cases h))⟩⟩⟩, List.forall_mem_cons.mpr ⟨ho, (fun _ h => (by cases h))⟩⟩
def o_Mo_styleTokens_161 : or_T := (363, 18, [(0, (2, 0, 0, [150])), (2, (2, 0, 0, [150])), (6, (0, 0, 1999, [])), (9, (0, 0, 1999, [])), (10, (0, 0, 4001, [])), (11, (0, 0, 96, [])), (15, (0, 0, 8, [])), (16, (0, 8, 8, [])), (17, (0, 1, 1, []))], [(7, [15, 16], [5]), (2, [15, 9, 6], []), (9, [9, 2], [11]), (20, [9, 2, 11], [50, 1, 1, 1010, 1001, 4, 11, 0, 6, 4, 2, 1, 0, 0, 1, 2, 1, 10, 1, 2, 1, 2, 9, 5, 3, 1, 1, 1, 0, 0, 256]), (20, [2, 9, 11], [50, 1, 0, 10, 4, 7, 0, 3, 2, 0, 10, 1, 1, 1, 2, 1, 2, 0, -1]), (20, [2, 6], [50, 3, 1, 157, 11, 10, 1, 2, 7, 0, 3, 2, 0, 157, 1, 1, 2, 7, 0, 2, 1, 1, 2, 0, 11, 3, 11, 0, 6, 4, 2, 1, 1, 0, 1, 2, 0, 11, 2, 7, 1, 3, 2, 0, 11, 1, 1, 2, 11, 0, 6, 4, 2, 1, 1, 0, 1, 2, 0, 10, 2, 13, 0, 2, 0, 97, 9, 5, 3, 0, 1, 1, 1, 0, 256, 0, 9, 9, 5, 3, 0, 1, 1, 1, 0, 256, 0, 122]), (20, [10, 6], [30, -4001, -1, 0, 0, -2, 0, 0]), (24, [0, 2], [])], [], [(0, 0, 4001, [])], [(20, [2, 6, 17], [50, 2, 0, 157, 11, 2, 7, 0, 3, 2, 0, 157, 1, 1, 2, 7, 0, 2, 1, 1, 2, 0, 11, 3, 6, 1, 2, 1, 2, 0, 0, 3, 6, 1, 2, 1, 2, 0, 4, 0, 6, 4, 2, 1, 1, 0, 1, 2, 0, 11]), (20, [18, 6], [30, -4001, -1, 0, 0, -2, 0, 0]), (24, [0, 2], [])], [(18, 10, 0, 0)], [(15, 9, -1999, 0), (6, 9, -4294967296, 0)])
theorem oo_Mo_styleTokens_161 {kA : Nat → ClassId} : or_ok kA GG o_Mo_styleTokens_161 := by
  intro A ta ws vs hD hth hl hk hds hf
  have hl : vs.length = 18 := hl
  have hk : ∀ q ∈ ([(0, (2, 0, 0, [150])), (2, (2, 0, 0, [150])), (6, (0, 0, 1999, [])), (9, (0, 0, 1999, [])), (10, (0, 0, 4001, [])), (11, (0, 0, 96, [])), (15, (0, 0, 8, [])), (16, (0, 8, 8, [])), (17, (0, 1, 1, []))] : List (Nat × tv_T)), tv_ok ta q.2 (n_v vs q.1) := hk
  obtain ⟨t0, hk⟩ := List.forall_mem_cons.mp hk
  have t0 : tv_ok ta (2, 0, 0, [150]) (n_v vs 0) := t0
  have r0 : ta (v_ad (n_v vs 0)) = some 150 := tv_rg t0
  obtain ⟨t2, hk⟩ := List.forall_mem_cons.mp hk
  have t2 : tv_ok ta (2, 0, 0, [150]) (n_v vs 2) := t2
  have r2 : ta (v_ad (n_v vs 2)) = some 150 := tv_rg t2
  obtain ⟨t6, hk⟩ := List.forall_mem_cons.mp hk
  have t6 : tv_ok ta (0, 0, 1999, []) (n_v vs 6) := t6
  have k6 : 0 ≤ v_iv (n_v vs 6) ∧ v_iv (n_v vs 6) ≤ 1999 := tv_rng t6
  obtain ⟨t9, hk⟩ := List.forall_mem_cons.mp hk
  have t9 : tv_ok ta (0, 0, 1999, []) (n_v vs 9) := t9
  have k9 : 0 ≤ v_iv (n_v vs 9) ∧ v_iv (n_v vs 9) ≤ 1999 := tv_rng t9
  obtain ⟨t10, hk⟩ := List.forall_mem_cons.mp hk
  have t10 : tv_ok ta (0, 0, 4001, []) (n_v vs 10) := t10
  have k10 : 0 ≤ v_iv (n_v vs 10) ∧ v_iv (n_v vs 10) ≤ 4001 := tv_rng t10
  obtain ⟨t11, hk⟩ := List.forall_mem_cons.mp hk
  have t11 : tv_ok ta (0, 0, 96, []) (n_v vs 11) := t11
  have k11 : 0 ≤ v_iv (n_v vs 11) ∧ v_iv (n_v vs 11) ≤ 96 := tv_rng t11
  obtain ⟨t15, hk⟩ := List.forall_mem_cons.mp hk
  have t15 : tv_ok ta (0, 0, 8, []) (n_v vs 15) := t15
  have k15 : 0 ≤ v_iv (n_v vs 15) ∧ v_iv (n_v vs 15) ≤ 8 := tv_rng t15
  obtain ⟨t16, hk⟩ := List.forall_mem_cons.mp hk
  have t16 : tv_ok ta (0, 8, 8, []) (n_v vs 16) := t16
  have k16 : 8 ≤ v_iv (n_v vs 16) ∧ v_iv (n_v vs 16) ≤ 8 := tv_rng t16
  obtain ⟨t17, hk⟩ := List.forall_mem_cons.mp hk
  have t17 : tv_ok ta (0, 1, 1, []) (n_v vs 17) := t17
  have k17 : 1 ≤ v_iv (n_v vs 17) ∧ v_iv (n_v vs 17) ≤ 1 := tv_rng t17
  have hds : ∀ q ∈ ([(15, 9, -1999, 0), (6, 9, -4294967296, 0)] : List of_T), n_iv vs q.2.1 + q.2.2.1 ≤ n_iv vs q.1 ∧ n_iv vs q.1 ≤ n_iv vs q.2.1 + q.2.2.2 := hds
  obtain ⟨d0, hds⟩ := List.forall_mem_cons.mp hds
  have d0 : v_iv (n_v vs 9) + (-1999) ≤ v_iv (n_v vs 15) ∧ v_iv (n_v vs 15) ≤ v_iv (n_v vs 9) + 0 := d0
  obtain ⟨d1, hds⟩ := List.forall_mem_cons.mp hds
  have d1 : v_iv (n_v vs 9) + (-4294967296) ≤ v_iv (n_v vs 6) ∧ v_iv (n_v vs 6) ≤ v_iv (n_v vs 9) + 0 := d1
  have hf : fc_ok [(7, [15, 16], [5]), (2, [15, 9, 6], []), (9, [9, 2], [11]), (20, [9, 2, 11], [50, 1, 1, 1010, 1001, 4, 11, 0, 6, 4, 2, 1, 0, 0, 1, 2, 1, 10, 1, 2, 1, 2, 9, 5, 3, 1, 1, 1, 0, 0, 256]), (20, [2, 9, 11], [50, 1, 0, 10, 4, 7, 0, 3, 2, 0, 10, 1, 1, 1, 2, 1, 2, 0, -1]), (20, [2, 6], [50, 3, 1, 157, 11, 10, 1, 2, 7, 0, 3, 2, 0, 157, 1, 1, 2, 7, 0, 2, 1, 1, 2, 0, 11, 3, 11, 0, 6, 4, 2, 1, 1, 0, 1, 2, 0, 11, 2, 7, 1, 3, 2, 0, 11, 1, 1, 2, 11, 0, 6, 4, 2, 1, 1, 0, 1, 2, 0, 10, 2, 13, 0, 2, 0, 97, 9, 5, 3, 0, 1, 1, 1, 0, 256, 0, 9, 9, 5, 3, 0, 1, 1, 1, 0, 256, 0, 122]), (20, [10, 6], [30, -4001, -1, 0, 0, -2, 0, 0]), (24, [0, 2], [])] ta ws vs := hf
  obtain ⟨f0, hf⟩ := fc_un (by decide) hf
  have f0 : v_iv (n_v vs 15) ≤ v_iv (n_v vs 16) := f0
  obtain ⟨f1, hf⟩ := fc_un (by decide) hf
  have f1 : v_iv (n_v vs 15) = v_iv (n_v vs 9) - v_iv (n_v vs 6) := f1
  obtain ⟨f2, hf⟩ := fc_un (by decide) hf
  have f2 : n_v vs 9 = w_fd ws (v_ad (n_v vs 2)) 11 := f2
  obtain ⟨f3, hf⟩ := fc_un (by decide) hf
  have f3 : ((v_iv (n_v vs 9) + 1) ≤ w_fi ws (n_v vs 2) 10) → (v_iv (n_v vs 11) = (w_ei ws (w_ar ws (n_v vs 2) 1) (v_iv (n_v vs 9)) % 256)) := f3
  obtain ⟨f4, hf⟩ := fc_un (by decide) hf
  have f4 : (w_fi ws (n_v vs 2) 10 ≤ v_iv (n_v vs 9)) → (v_iv (n_v vs 11) = (-1)) := f4
  obtain ⟨f5, hf⟩ := fc_un (by decide) hf
  have f5 : (w_fi ws (n_v vs 2) 157 ≤ v_iv (n_v vs 6)) ∧ ((v_iv (n_v vs 6) ≤ w_fi ws (n_v vs 2) 11) ∧ (((v_iv (n_v vs 6) + 1) ≤ w_fi ws (n_v vs 2) 11) ∨ ((w_fi ws (n_v vs 2) 11 = v_iv (n_v vs 6)) ∧ (((v_iv (n_v vs 6) + 1) ≤ w_fi ws (n_v vs 2) 10) ∧ ((97 ≤ (w_ei ws (w_ar ws (n_v vs 2) 1) (v_iv (n_v vs 6)) % 256)) ∧ ((w_ei ws (w_ar ws (n_v vs 2) 1) (v_iv (n_v vs 6)) % 256) ≤ 122)))))) := f5
  obtain ⟨f6, hf⟩ := fc_un (by decide) hf
  have f6 : (-1) * v_iv (n_v vs 10) + ((-2) * v_iv (n_v vs 6) + 0) ≤ (-4001) := f6
  obtain ⟨f7, hf⟩ := fc_un (by decide) hf
  have f7 : n_v vs 0 = n_v vs 2 := f7
  have q2 : n_v vs 2 = n_v vs 0 := f7.symm
  rw [q2] at f2
  rw [q2] at f3
  rw [q2] at f4
  rw [q2] at f5
  have cr_0_1 : ta (w_ar ws (n_v vs 0) 1) = some 151 := tv_rg (th_fd hD hth r0 (g := GG_150) rfl (k := 1) (t := (2, 0, 0, [151])) rfl rfl)
  have g2 : v_iv (n_v vs 9) = w_fi ws (n_v vs 0) 11 := congrArg v_iv f2
  have hK_0_1 : ∀ j : Int, 0 ≤ j → j < 2000 → (-128) ≤ w_ei ws (w_ar ws (n_v vs 0) 1) j ∧ w_ei ws (w_ar ws (n_v vs 0) 1) j ≤ 127 := fun j h0 h1 => th_el hD hth cr_0_1 (kd := 1) (n := 2000) (m := 2000) (lo := (-128)) (hi := 127) (rs := []) (L := []) rfl (by decide) (j := j.toNat) (by omega)
  have kz_0_10 : 0 ≤ w_fi ws (n_v vs 0) 10 ∧ w_fi ws (n_v vs 0) 10 ≤ 2000 := tv_rng (th_fd hD hth r0 (g := GG_150) rfl (k := 10) (t := (0, 0, 2000, [])) rfl rfl)
  have kz_0_11 : 0 ≤ w_fi ws (n_v vs 0) 11 ∧ w_fi ws (n_v vs 0) 11 ≤ 2000 := tv_rng (th_fd hD hth r0 (g := GG_150) rfl (k := 11) (t := (0, 0, 2000, [])) rfl rfl)
  have kz_0_157 : 0 ≤ w_fi ws (n_v vs 0) 157 ∧ w_fi ws (n_v vs 0) 157 ≤ 2010 := tv_rng (th_fd hD hth r0 (g := GG_150) rfl (k := 157) (t := (0, 0, 2010, [])) rfl rfl)
  obtain ⟨x, ex, hx⟩ := iv_ex (ta := ta) (lo := 0) (hi := 4001) (z := 0 + (1 * v_iv (n_v vs 10) + 0)) (by omega) (by omega) (by decide) (by decide)
  have ex2 : v_iv (Value.int x) = 0 + (1 * v_iv (n_v vs 10) + 0) := ex
  have ex3 : 0 ≤ v_iv (Value.int x) ∧ v_iv (Value.int x) ≤ 4001 := tv_rng hx
  have e_0 : n_v (vs ++ [Value.int x]) 0 = n_v vs 0 := n_v_old (by rw [hl]; decide)
  have e_2 : n_v (vs ++ [Value.int x]) 2 = n_v vs 2 := n_v_old (by rw [hl]; decide)
  have e_6 : n_v (vs ++ [Value.int x]) 6 = n_v vs 6 := n_v_old (by rw [hl]; decide)
  have e_17 : n_v (vs ++ [Value.int x]) 17 = n_v vs 17 := n_v_old (by rw [hl]; decide)
  have e_18 : n_v (vs ++ [Value.int x]) 18 = Value.int x := n_v_new hl
  have nf0 : fc_1 (20, [2, 6, 17], [50, 2, 0, 157, 11, 2, 7, 0, 3, 2, 0, 157, 1, 1, 2, 7, 0, 2, 1, 1, 2, 0, 11, 3, 6, 1, 2, 1, 2, 0, 0, 3, 6, 1, 2, 1, 2, 0, 4, 0, 6, 4, 2, 1, 1, 0, 1, 2, 0, 11]) ws (vs ++ [Value.int x]) := by
    refine ⟨fun n hn => ?_, ?_⟩
    · have hn : n ∈ [2, 6, 17] := hn
      rw [List.length_append, hl]
      simp only [List.mem_cons, List.not_mem_nil, or_false] at hn
      show n < 18 + 1; omega
    · show (w_fi ws (n_v (vs ++ [Value.int x]) 2) 157 ≤ v_iv (n_v (vs ++ [Value.int x]) 6)) ∧ ((v_iv (n_v (vs ++ [Value.int x]) 6) ≤ w_fi ws (n_v (vs ++ [Value.int x]) 2) 11) ∧ ((v_iv (n_v (vs ++ [Value.int x]) 17) = 0) ∨ ((v_iv (n_v (vs ++ [Value.int x]) 17) = 4) ∨ ((v_iv (n_v (vs ++ [Value.int x]) 6) + 1) ≤ w_fi ws (n_v (vs ++ [Value.int x]) 2) 11))))
      rw [e_2]
      rw [e_6]
      rw [e_17]
      rw [q2]
      first | omega | grind
  have nf1 : fc_1 (20, [18, 6], [30, -4001, -1, 0, 0, -2, 0, 0]) ws (vs ++ [Value.int x]) := by
    refine ⟨fun n hn => ?_, ?_⟩
    · have hn : n ∈ [18, 6] := hn
      rw [List.length_append, hl]
      simp only [List.mem_cons, List.not_mem_nil, or_false] at hn
      show n < 18 + 1; omega
    · show (-1) * v_iv (n_v (vs ++ [Value.int x]) 18) + ((-2) * v_iv (n_v (vs ++ [Value.int x]) 6) + 0) ≤ (-4001)
      rw [e_6]
      rw [e_18]
      omega
  have nf2 : fc_1 (24, [0, 2], []) ws (vs ++ [Value.int x]) := by
    refine ⟨fun n hn => ?_, ?_⟩
    · have hn : n ∈ [0, 2] := hn
      rw [List.length_append, hl]
      simp only [List.mem_cons, List.not_mem_nil, or_false] at hn
      show n < 18 + 1; omega
    · show n_v (vs ++ [Value.int x]) 0 = n_v (vs ++ [Value.int x]) 2
      first | rfl | simp only [e_0, e_2, q2]
  obtain ⟨x0, e0, _, _⟩ := tv_int t10 rfl
  have e1 : v_iv (n_v vs 10) = x0.toInt := by rw [e0]; rfl
  have ho : sy_ofs (vs ++ [Value.int x]) (18, 10, 0, 0) := by
    refine ⟨x, x0, by rw [List.getElem?_append_right (by rw [hl]; decide), hl]; rfl, ?_, ?_, ?_⟩
    · rw [List.getElem?_append_left (by rw [hl]; decide)]; exact n_v_some (by rw [hl]; decide) e0
    · show x0.toInt + 0 ≤ x.toInt; omega
    · show x.toInt ≤ x0.toInt + 0; omega
  exact ⟨fun q hq => (by cases hq), [Value.int x], ag_one hx, List.forall_mem_cons.mpr ⟨⟨by decide, nf0⟩, List.forall_mem_cons.mpr ⟨⟨by decide, nf1⟩, List.forall_mem_cons.mpr ⟨⟨by decide, nf2⟩, (fun _ h => (by cases h))⟩⟩⟩, List.forall_mem_cons.mpr ⟨ho, (fun _ h => (by cases h))⟩⟩
def o_Mo_styleTokens_162 : or_T := (363, 18, [(0, (2, 0, 0, [150])), (2, (2, 0, 0, [150])), (6, (0, 0, 1999, [])), (9, (0, 9, 1999, [])), (10, (0, 0, 4001, [])), (11, (0, 123, 255, [])), (15, (0, 9, 1999, [])), (16, (0, 8, 8, [])), (17, (0, 4, 4, []))], [(7, [15, 16], [4]), (2, [15, 9, 6], []), (9, [9, 2], [11]), (20, [9, 2, 11], [50, 1, 1, 1010, 1001, 4, 11, 0, 6, 4, 2, 1, 0, 0, 1, 2, 1, 10, 1, 2, 1, 2, 9, 5, 3, 1, 1, 1, 0, 0, 256]), (20, [2, 9, 11], [50, 1, 0, 10, 4, 7, 0, 3, 2, 0, 10, 1, 1, 1, 2, 1, 2, 0, -1]), (20, [2, 6], [50, 3, 1, 157, 11, 10, 1, 2, 7, 0, 3, 2, 0, 157, 1, 1, 2, 7, 0, 2, 1, 1, 2, 0, 11, 3, 11, 0, 6, 4, 2, 1, 1, 0, 1, 2, 0, 11, 2, 7, 1, 3, 2, 0, 11, 1, 1, 2, 11, 0, 6, 4, 2, 1, 1, 0, 1, 2, 0, 10, 2, 13, 0, 2, 0, 97, 9, 5, 3, 0, 1, 1, 1, 0, 256, 0, 9, 9, 5, 3, 0, 1, 1, 1, 0, 256, 0, 122]), (20, [10, 6], [30, -4001, -1, 0, 0, -2, 0, 0]), (24, [0, 2], [])], [], [(0, 0, 4001, [])], [(20, [2, 6, 17], [50, 2, 0, 157, 11, 2, 7, 0, 3, 2, 0, 157, 1, 1, 2, 7, 0, 2, 1, 1, 2, 0, 11, 3, 6, 1, 2, 1, 2, 0, 0, 3, 6, 1, 2, 1, 2, 0, 4, 0, 6, 4, 2, 1, 1, 0, 1, 2, 0, 11]), (20, [18, 6], [30, -4001, -1, 0, 0, -2, 0, 0]), (24, [0, 2], [])], [(18, 10, 0, 0)], [(15, 9, -1999, 0), (6, 9, -4294967296, 0)])
theorem oo_Mo_styleTokens_162 {kA : Nat → ClassId} : or_ok kA GG o_Mo_styleTokens_162 := by
  intro A ta ws vs hD hth hl hk hds hf
  have hl : vs.length = 18 := hl
  have hk : ∀ q ∈ ([(0, (2, 0, 0, [150])), (2, (2, 0, 0, [150])), (6, (0, 0, 1999, [])), (9, (0, 9, 1999, [])), (10, (0, 0, 4001, [])), (11, (0, 123, 255, [])), (15, (0, 9, 1999, [])), (16, (0, 8, 8, [])), (17, (0, 4, 4, []))] : List (Nat × tv_T)), tv_ok ta q.2 (n_v vs q.1) := hk
  obtain ⟨t0, hk⟩ := List.forall_mem_cons.mp hk
  have t0 : tv_ok ta (2, 0, 0, [150]) (n_v vs 0) := t0
  have r0 : ta (v_ad (n_v vs 0)) = some 150 := tv_rg t0
  obtain ⟨t2, hk⟩ := List.forall_mem_cons.mp hk
  have t2 : tv_ok ta (2, 0, 0, [150]) (n_v vs 2) := t2
  have r2 : ta (v_ad (n_v vs 2)) = some 150 := tv_rg t2
  obtain ⟨t6, hk⟩ := List.forall_mem_cons.mp hk
  have t6 : tv_ok ta (0, 0, 1999, []) (n_v vs 6) := t6
  have k6 : 0 ≤ v_iv (n_v vs 6) ∧ v_iv (n_v vs 6) ≤ 1999 := tv_rng t6
  obtain ⟨t9, hk⟩ := List.forall_mem_cons.mp hk
  have t9 : tv_ok ta (0, 9, 1999, []) (n_v vs 9) := t9
  have k9 : 9 ≤ v_iv (n_v vs 9) ∧ v_iv (n_v vs 9) ≤ 1999 := tv_rng t9
  obtain ⟨t10, hk⟩ := List.forall_mem_cons.mp hk
  have t10 : tv_ok ta (0, 0, 4001, []) (n_v vs 10) := t10
  have k10 : 0 ≤ v_iv (n_v vs 10) ∧ v_iv (n_v vs 10) ≤ 4001 := tv_rng t10
  obtain ⟨t11, hk⟩ := List.forall_mem_cons.mp hk
  have t11 : tv_ok ta (0, 123, 255, []) (n_v vs 11) := t11
  have k11 : 123 ≤ v_iv (n_v vs 11) ∧ v_iv (n_v vs 11) ≤ 255 := tv_rng t11
  obtain ⟨t15, hk⟩ := List.forall_mem_cons.mp hk
  have t15 : tv_ok ta (0, 9, 1999, []) (n_v vs 15) := t15
  have k15 : 9 ≤ v_iv (n_v vs 15) ∧ v_iv (n_v vs 15) ≤ 1999 := tv_rng t15
  obtain ⟨t16, hk⟩ := List.forall_mem_cons.mp hk
  have t16 : tv_ok ta (0, 8, 8, []) (n_v vs 16) := t16
  have k16 : 8 ≤ v_iv (n_v vs 16) ∧ v_iv (n_v vs 16) ≤ 8 := tv_rng t16
  obtain ⟨t17, hk⟩ := List.forall_mem_cons.mp hk
  have t17 : tv_ok ta (0, 4, 4, []) (n_v vs 17) := t17
  have k17 : 4 ≤ v_iv (n_v vs 17) ∧ v_iv (n_v vs 17) ≤ 4 := tv_rng t17
  have hds : ∀ q ∈ ([(15, 9, -1999, 0), (6, 9, -4294967296, 0)] : List of_T), n_iv vs q.2.1 + q.2.2.1 ≤ n_iv vs q.1 ∧ n_iv vs q.1 ≤ n_iv vs q.2.1 + q.2.2.2 := hds
  obtain ⟨d0, hds⟩ := List.forall_mem_cons.mp hds
  have d0 : v_iv (n_v vs 9) + (-1999) ≤ v_iv (n_v vs 15) ∧ v_iv (n_v vs 15) ≤ v_iv (n_v vs 9) + 0 := d0
  obtain ⟨d1, hds⟩ := List.forall_mem_cons.mp hds
  have d1 : v_iv (n_v vs 9) + (-4294967296) ≤ v_iv (n_v vs 6) ∧ v_iv (n_v vs 6) ≤ v_iv (n_v vs 9) + 0 := d1
  have hf : fc_ok [(7, [15, 16], [4]), (2, [15, 9, 6], []), (9, [9, 2], [11]), (20, [9, 2, 11], [50, 1, 1, 1010, 1001, 4, 11, 0, 6, 4, 2, 1, 0, 0, 1, 2, 1, 10, 1, 2, 1, 2, 9, 5, 3, 1, 1, 1, 0, 0, 256]), (20, [2, 9, 11], [50, 1, 0, 10, 4, 7, 0, 3, 2, 0, 10, 1, 1, 1, 2, 1, 2, 0, -1]), (20, [2, 6], [50, 3, 1, 157, 11, 10, 1, 2, 7, 0, 3, 2, 0, 157, 1, 1, 2, 7, 0, 2, 1, 1, 2, 0, 11, 3, 11, 0, 6, 4, 2, 1, 1, 0, 1, 2, 0, 11, 2, 7, 1, 3, 2, 0, 11, 1, 1, 2, 11, 0, 6, 4, 2, 1, 1, 0, 1, 2, 0, 10, 2, 13, 0, 2, 0, 97, 9, 5, 3, 0, 1, 1, 1, 0, 256, 0, 9, 9, 5, 3, 0, 1, 1, 1, 0, 256, 0, 122]), (20, [10, 6], [30, -4001, -1, 0, 0, -2, 0, 0]), (24, [0, 2], [])] ta ws vs := hf
  obtain ⟨f0, hf⟩ := fc_un (by decide) hf
  have f0 : v_iv (n_v vs 16) < v_iv (n_v vs 15) := f0
  obtain ⟨f1, hf⟩ := fc_un (by decide) hf
  have f1 : v_iv (n_v vs 15) = v_iv (n_v vs 9) - v_iv (n_v vs 6) := f1
  obtain ⟨f2, hf⟩ := fc_un (by decide) hf
  have f2 : n_v vs 9 = w_fd ws (v_ad (n_v vs 2)) 11 := f2
  obtain ⟨f3, hf⟩ := fc_un (by decide) hf
  have f3 : ((v_iv (n_v vs 9) + 1) ≤ w_fi ws (n_v vs 2) 10) → (v_iv (n_v vs 11) = (w_ei ws (w_ar ws (n_v vs 2) 1) (v_iv (n_v vs 9)) % 256)) := f3
  obtain ⟨f4, hf⟩ := fc_un (by decide) hf
  have f4 : (w_fi ws (n_v vs 2) 10 ≤ v_iv (n_v vs 9)) → (v_iv (n_v vs 11) = (-1)) := f4
  obtain ⟨f5, hf⟩ := fc_un (by decide) hf
  have f5 : (w_fi ws (n_v vs 2) 157 ≤ v_iv (n_v vs 6)) ∧ ((v_iv (n_v vs 6) ≤ w_fi ws (n_v vs 2) 11) ∧ (((v_iv (n_v vs 6) + 1) ≤ w_fi ws (n_v vs 2) 11) ∨ ((w_fi ws (n_v vs 2) 11 = v_iv (n_v vs 6)) ∧ (((v_iv (n_v vs 6) + 1) ≤ w_fi ws (n_v vs 2) 10) ∧ ((97 ≤ (w_ei ws (w_ar ws (n_v vs 2) 1) (v_iv (n_v vs 6)) % 256)) ∧ ((w_ei ws (w_ar ws (n_v vs 2) 1) (v_iv (n_v vs 6)) % 256) ≤ 122)))))) := f5
  obtain ⟨f6, hf⟩ := fc_un (by decide) hf
  have f6 : (-1) * v_iv (n_v vs 10) + ((-2) * v_iv (n_v vs 6) + 0) ≤ (-4001) := f6
  obtain ⟨f7, hf⟩ := fc_un (by decide) hf
  have f7 : n_v vs 0 = n_v vs 2 := f7
  have q2 : n_v vs 2 = n_v vs 0 := f7.symm
  rw [q2] at f2
  rw [q2] at f3
  rw [q2] at f4
  rw [q2] at f5
  have cr_0_1 : ta (w_ar ws (n_v vs 0) 1) = some 151 := tv_rg (th_fd hD hth r0 (g := GG_150) rfl (k := 1) (t := (2, 0, 0, [151])) rfl rfl)
  have g2 : v_iv (n_v vs 9) = w_fi ws (n_v vs 0) 11 := congrArg v_iv f2
  have hK_0_1 : ∀ j : Int, 0 ≤ j → j < 2000 → (-128) ≤ w_ei ws (w_ar ws (n_v vs 0) 1) j ∧ w_ei ws (w_ar ws (n_v vs 0) 1) j ≤ 127 := fun j h0 h1 => th_el hD hth cr_0_1 (kd := 1) (n := 2000) (m := 2000) (lo := (-128)) (hi := 127) (rs := []) (L := []) rfl (by decide) (j := j.toNat) (by omega)
  have kz_0_10 : 0 ≤ w_fi ws (n_v vs 0) 10 ∧ w_fi ws (n_v vs 0) 10 ≤ 2000 := tv_rng (th_fd hD hth r0 (g := GG_150) rfl (k := 10) (t := (0, 0, 2000, [])) rfl rfl)
  have kz_0_11 : 0 ≤ w_fi ws (n_v vs 0) 11 ∧ w_fi ws (n_v vs 0) 11 ≤ 2000 := tv_rng (th_fd hD hth r0 (g := GG_150) rfl (k := 11) (t := (0, 0, 2000, [])) rfl rfl)
  have kz_0_157 : 0 ≤ w_fi ws (n_v vs 0) 157 ∧ w_fi ws (n_v vs 0) 157 ≤ 2010 := tv_rng (th_fd hD hth r0 (g := GG_150) rfl (k := 157) (t := (0, 0, 2010, [])) rfl rfl)
  obtain ⟨x, ex, hx⟩ := iv_ex (ta := ta) (lo := 0) (hi := 4001) (z := 0 + (1 * v_iv (n_v vs 10) + 0)) (by omega) (by omega) (by decide) (by decide)
  have ex2 : v_iv (Value.int x) = 0 + (1 * v_iv (n_v vs 10) + 0) := ex
  have ex3 : 0 ≤ v_iv (Value.int x) ∧ v_iv (Value.int x) ≤ 4001 := tv_rng hx
  have e_0 : n_v (vs ++ [Value.int x]) 0 = n_v vs 0 := n_v_old (by rw [hl]; decide)
  have e_2 : n_v (vs ++ [Value.int x]) 2 = n_v vs 2 := n_v_old (by rw [hl]; decide)
  have e_6 : n_v (vs ++ [Value.int x]) 6 = n_v vs 6 := n_v_old (by rw [hl]; decide)
  have e_17 : n_v (vs ++ [Value.int x]) 17 = n_v vs 17 := n_v_old (by rw [hl]; decide)
  have e_18 : n_v (vs ++ [Value.int x]) 18 = Value.int x := n_v_new hl
  have nf0 : fc_1 (20, [2, 6, 17], [50, 2, 0, 157, 11, 2, 7, 0, 3, 2, 0, 157, 1, 1, 2, 7, 0, 2, 1, 1, 2, 0, 11, 3, 6, 1, 2, 1, 2, 0, 0, 3, 6, 1, 2, 1, 2, 0, 4, 0, 6, 4, 2, 1, 1, 0, 1, 2, 0, 11]) ws (vs ++ [Value.int x]) := by
    refine ⟨fun n hn => ?_, ?_⟩
    · have hn : n ∈ [2, 6, 17] := hn
      rw [List.length_append, hl]
      simp only [List.mem_cons, List.not_mem_nil, or_false] at hn
      show n < 18 + 1; omega
    · show (w_fi ws (n_v (vs ++ [Value.int x]) 2) 157 ≤ v_iv (n_v (vs ++ [Value.int x]) 6)) ∧ ((v_iv (n_v (vs ++ [Value.int x]) 6) ≤ w_fi ws (n_v (vs ++ [Value.int x]) 2) 11) ∧ ((v_iv (n_v (vs ++ [Value.int x]) 17) = 0) ∨ ((v_iv (n_v (vs ++ [Value.int x]) 17) = 4) ∨ ((v_iv (n_v (vs ++ [Value.int x]) 6) + 1) ≤ w_fi ws (n_v (vs ++ [Value.int x]) 2) 11))))
      rw [e_2]
      rw [e_6]
      rw [e_17]
      rw [q2]
      first | omega | grind
  have nf1 : fc_1 (20, [18, 6], [30, -4001, -1, 0, 0, -2, 0, 0]) ws (vs ++ [Value.int x]) := by
    refine ⟨fun n hn => ?_, ?_⟩
    · have hn : n ∈ [18, 6] := hn
      rw [List.length_append, hl]
      simp only [List.mem_cons, List.not_mem_nil, or_false] at hn
      show n < 18 + 1; omega
    · show (-1) * v_iv (n_v (vs ++ [Value.int x]) 18) + ((-2) * v_iv (n_v (vs ++ [Value.int x]) 6) + 0) ≤ (-4001)
      rw [e_6]
      rw [e_18]
      omega
  have nf2 : fc_1 (24, [0, 2], []) ws (vs ++ [Value.int x]) := by
    refine ⟨fun n hn => ?_, ?_⟩
    · have hn : n ∈ [0, 2] := hn
      rw [List.length_append, hl]
      simp only [List.mem_cons, List.not_mem_nil, or_false] at hn
      show n < 18 + 1; omega
    · show n_v (vs ++ [Value.int x]) 0 = n_v (vs ++ [Value.int x]) 2
      first | rfl | simp only [e_0, e_2, q2]
  obtain ⟨x0, e0, _, _⟩ := tv_int t10 rfl
  have e1 : v_iv (n_v vs 10) = x0.toInt := by rw [e0]; rfl
  have ho : sy_ofs (vs ++ [Value.int x]) (18, 10, 0, 0) := by
    refine ⟨x, x0, by rw [List.getElem?_append_right (by rw [hl]; decide), hl]; rfl, ?_, ?_, ?_⟩
    · rw [List.getElem?_append_left (by rw [hl]; decide)]; exact n_v_some (by rw [hl]; decide) e0
    · show x0.toInt + 0 ≤ x.toInt; omega
    · show x.toInt ≤ x0.toInt + 0; omega
  exact ⟨fun q hq => (by cases hq), [Value.int x], ag_one hx, List.forall_mem_cons.mpr ⟨⟨by decide, nf0⟩, List.forall_mem_cons.mpr ⟨⟨by decide, nf1⟩, List.forall_mem_cons.mpr ⟨⟨by decide, nf2⟩, (fun _ h => (by cases h))⟩⟩⟩, List.forall_mem_cons.mpr ⟨ho, (fun _ h => (by cases h))⟩⟩
def o_Mo_styleTokens_163 : or_T := (363, 18, [(0, (2, 0, 0, [150])), (2, (2, 0, 0, [150])), (6, (0, 0, 1999, [])), (9, (0, 0, 1999, [])), (10, (0, 0, 4001, [])), (11, (0, 123, 255, [])), (15, (0, 0, 8, [])), (16, (0, 8, 8, [])), (17, (0, 1, 1, []))], [(7, [15, 16], [5]), (2, [15, 9, 6], []), (9, [9, 2], [11]), (20, [9, 2, 11], [50, 1, 1, 1010, 1001, 4, 11, 0, 6, 4, 2, 1, 0, 0, 1, 2, 1, 10, 1, 2, 1, 2, 9, 5, 3, 1, 1, 1, 0, 0, 256]), (20, [2, 9, 11], [50, 1, 0, 10, 4, 7, 0, 3, 2, 0, 10, 1, 1, 1, 2, 1, 2, 0, -1]), (20, [2, 6], [50, 3, 1, 157, 11, 10, 1, 2, 7, 0, 3, 2, 0, 157, 1, 1, 2, 7, 0, 2, 1, 1, 2, 0, 11, 3, 11, 0, 6, 4, 2, 1, 1, 0, 1, 2, 0, 11, 2, 7, 1, 3, 2, 0, 11, 1, 1, 2, 11, 0, 6, 4, 2, 1, 1, 0, 1, 2, 0, 10, 2, 13, 0, 2, 0, 97, 9, 5, 3, 0, 1, 1, 1, 0, 256, 0, 9, 9, 5, 3, 0, 1, 1, 1, 0, 256, 0, 122]), (20, [10, 6], [30, -4001, -1, 0, 0, -2, 0, 0]), (24, [0, 2], [])], [], [(0, 0, 4001, [])], [(20, [2, 6, 17], [50, 2, 0, 157, 11, 2, 7, 0, 3, 2, 0, 157, 1, 1, 2, 7, 0, 2, 1, 1, 2, 0, 11, 3, 6, 1, 2, 1, 2, 0, 0, 3, 6, 1, 2, 1, 2, 0, 4, 0, 6, 4, 2, 1, 1, 0, 1, 2, 0, 11]), (20, [18, 6], [30, -4001, -1, 0, 0, -2, 0, 0]), (24, [0, 2], [])], [(18, 10, 0, 0)], [(15, 9, -1999, 0), (6, 9, -4294967296, 0)])
theorem oo_Mo_styleTokens_163 {kA : Nat → ClassId} : or_ok kA GG o_Mo_styleTokens_163 := by
  intro A ta ws vs hD hth hl hk hds hf
  have hl : vs.length = 18 := hl
  have hk : ∀ q ∈ ([(0, (2, 0, 0, [150])), (2, (2, 0, 0, [150])), (6, (0, 0, 1999, [])), (9, (0, 0, 1999, [])), (10, (0, 0, 4001, [])), (11, (0, 123, 255, [])), (15, (0, 0, 8, [])), (16, (0, 8, 8, [])), (17, (0, 1, 1, []))] : List (Nat × tv_T)), tv_ok ta q.2 (n_v vs q.1) := hk
  obtain ⟨t0, hk⟩ := List.forall_mem_cons.mp hk
  have t0 : tv_ok ta (2, 0, 0, [150]) (n_v vs 0) := t0
  have r0 : ta (v_ad (n_v vs 0)) = some 150 := tv_rg t0
  obtain ⟨t2, hk⟩ := List.forall_mem_cons.mp hk
  have t2 : tv_ok ta (2, 0, 0, [150]) (n_v vs 2) := t2
  have r2 : ta (v_ad (n_v vs 2)) = some 150 := tv_rg t2
  obtain ⟨t6, hk⟩ := List.forall_mem_cons.mp hk
  have t6 : tv_ok ta (0, 0, 1999, []) (n_v vs 6) := t6
  have k6 : 0 ≤ v_iv (n_v vs 6) ∧ v_iv (n_v vs 6) ≤ 1999 := tv_rng t6
  obtain ⟨t9, hk⟩ := List.forall_mem_cons.mp hk
  have t9 : tv_ok ta (0, 0, 1999, []) (n_v vs 9) := t9
  have k9 : 0 ≤ v_iv (n_v vs 9) ∧ v_iv (n_v vs 9) ≤ 1999 := tv_rng t9
  obtain ⟨t10, hk⟩ := List.forall_mem_cons.mp hk
  have t10 : tv_ok ta (0, 0, 4001, []) (n_v vs 10) := t10
  have k10 : 0 ≤ v_iv (n_v vs 10) ∧ v_iv (n_v vs 10) ≤ 4001 := tv_rng t10
  obtain ⟨t11, hk⟩ := List.forall_mem_cons.mp hk
  have t11 : tv_ok ta (0, 123, 255, []) (n_v vs 11) := t11
  have k11 : 123 ≤ v_iv (n_v vs 11) ∧ v_iv (n_v vs 11) ≤ 255 := tv_rng t11
  obtain ⟨t15, hk⟩ := List.forall_mem_cons.mp hk
  have t15 : tv_ok ta (0, 0, 8, []) (n_v vs 15) := t15
  have k15 : 0 ≤ v_iv (n_v vs 15) ∧ v_iv (n_v vs 15) ≤ 8 := tv_rng t15
  obtain ⟨t16, hk⟩ := List.forall_mem_cons.mp hk
  have t16 : tv_ok ta (0, 8, 8, []) (n_v vs 16) := t16
  have k16 : 8 ≤ v_iv (n_v vs 16) ∧ v_iv (n_v vs 16) ≤ 8 := tv_rng t16
  obtain ⟨t17, hk⟩ := List.forall_mem_cons.mp hk
  have t17 : tv_ok ta (0, 1, 1, []) (n_v vs 17) := t17
  have k17 : 1 ≤ v_iv (n_v vs 17) ∧ v_iv (n_v vs 17) ≤ 1 := tv_rng t17
  have hds : ∀ q ∈ ([(15, 9, -1999, 0), (6, 9, -4294967296, 0)] : List of_T), n_iv vs q.2.1 + q.2.2.1 ≤ n_iv vs q.1 ∧ n_iv vs q.1 ≤ n_iv vs q.2.1 + q.2.2.2 := hds
  obtain ⟨d0, hds⟩ := List.forall_mem_cons.mp hds
  have d0 : v_iv (n_v vs 9) + (-1999) ≤ v_iv (n_v vs 15) ∧ v_iv (n_v vs 15) ≤ v_iv (n_v vs 9) + 0 := d0
  obtain ⟨d1, hds⟩ := List.forall_mem_cons.mp hds
  have d1 : v_iv (n_v vs 9) + (-4294967296) ≤ v_iv (n_v vs 6) ∧ v_iv (n_v vs 6) ≤ v_iv (n_v vs 9) + 0 := d1
  have hf : fc_ok [(7, [15, 16], [5]), (2, [15, 9, 6], []), (9, [9, 2], [11]), (20, [9, 2, 11], [50, 1, 1, 1010, 1001, 4, 11, 0, 6, 4, 2, 1, 0, 0, 1, 2, 1, 10, 1, 2, 1, 2, 9, 5, 3, 1, 1, 1, 0, 0, 256]), (20, [2, 9, 11], [50, 1, 0, 10, 4, 7, 0, 3, 2, 0, 10, 1, 1, 1, 2, 1, 2, 0, -1]), (20, [2, 6], [50, 3, 1, 157, 11, 10, 1, 2, 7, 0, 3, 2, 0, 157, 1, 1, 2, 7, 0, 2, 1, 1, 2, 0, 11, 3, 11, 0, 6, 4, 2, 1, 1, 0, 1, 2, 0, 11, 2, 7, 1, 3, 2, 0, 11, 1, 1, 2, 11, 0, 6, 4, 2, 1, 1, 0, 1, 2, 0, 10, 2, 13, 0, 2, 0, 97, 9, 5, 3, 0, 1, 1, 1, 0, 256, 0, 9, 9, 5, 3, 0, 1, 1, 1, 0, 256, 0, 122]), (20, [10, 6], [30, -4001, -1, 0, 0, -2, 0, 0]), (24, [0, 2], [])] ta ws vs := hf
  obtain ⟨f0, hf⟩ := fc_un (by decide) hf
  have f0 : v_iv (n_v vs 15) ≤ v_iv (n_v vs 16) := f0
  obtain ⟨f1, hf⟩ := fc_un (by decide) hf
  have f1 : v_iv (n_v vs 15) = v_iv (n_v vs 9) - v_iv (n_v vs 6) := f1
  obtain ⟨f2, hf⟩ := fc_un (by decide) hf
  have f2 : n_v vs 9 = w_fd ws (v_ad (n_v vs 2)) 11 := f2
  obtain ⟨f3, hf⟩ := fc_un (by decide) hf
  have f3 : ((v_iv (n_v vs 9) + 1) ≤ w_fi ws (n_v vs 2) 10) → (v_iv (n_v vs 11) = (w_ei ws (w_ar ws (n_v vs 2) 1) (v_iv (n_v vs 9)) % 256)) := f3
  obtain ⟨f4, hf⟩ := fc_un (by decide) hf
  have f4 : (w_fi ws (n_v vs 2) 10 ≤ v_iv (n_v vs 9)) → (v_iv (n_v vs 11) = (-1)) := f4
  obtain ⟨f5, hf⟩ := fc_un (by decide) hf
  have f5 : (w_fi ws (n_v vs 2) 157 ≤ v_iv (n_v vs 6)) ∧ ((v_iv (n_v vs 6) ≤ w_fi ws (n_v vs 2) 11) ∧ (((v_iv (n_v vs 6) + 1) ≤ w_fi ws (n_v vs 2) 11) ∨ ((w_fi ws (n_v vs 2) 11 = v_iv (n_v vs 6)) ∧ (((v_iv (n_v vs 6) + 1) ≤ w_fi ws (n_v vs 2) 10) ∧ ((97 ≤ (w_ei ws (w_ar ws (n_v vs 2) 1) (v_iv (n_v vs 6)) % 256)) ∧ ((w_ei ws (w_ar ws (n_v vs 2) 1) (v_iv (n_v vs 6)) % 256) ≤ 122)))))) := f5
  obtain ⟨f6, hf⟩ := fc_un (by decide) hf
  have f6 : (-1) * v_iv (n_v vs 10) + ((-2) * v_iv (n_v vs 6) + 0) ≤ (-4001) := f6
  obtain ⟨f7, hf⟩ := fc_un (by decide) hf
  have f7 : n_v vs 0 = n_v vs 2 := f7
  have q2 : n_v vs 2 = n_v vs 0 := f7.symm
  rw [q2] at f2
  rw [q2] at f3
  rw [q2] at f4
  rw [q2] at f5
  have cr_0_1 : ta (w_ar ws (n_v vs 0) 1) = some 151 := tv_rg (th_fd hD hth r0 (g := GG_150) rfl (k := 1) (t := (2, 0, 0, [151])) rfl rfl)
  have g2 : v_iv (n_v vs 9) = w_fi ws (n_v vs 0) 11 := congrArg v_iv f2
  have hK_0_1 : ∀ j : Int, 0 ≤ j → j < 2000 → (-128) ≤ w_ei ws (w_ar ws (n_v vs 0) 1) j ∧ w_ei ws (w_ar ws (n_v vs 0) 1) j ≤ 127 := fun j h0 h1 => th_el hD hth cr_0_1 (kd := 1) (n := 2000) (m := 2000) (lo := (-128)) (hi := 127) (rs := []) (L := []) rfl (by decide) (j := j.toNat) (by omega)
  have kz_0_10 : 0 ≤ w_fi ws (n_v vs 0) 10 ∧ w_fi ws (n_v vs 0) 10 ≤ 2000 := tv_rng (th_fd hD hth r0 (g := GG_150) rfl (k := 10) (t := (0, 0, 2000, [])) rfl rfl)
  have kz_0_11 : 0 ≤ w_fi ws (n_v vs 0) 11 ∧ w_fi ws (n_v vs 0) 11 ≤ 2000 := tv_rng (th_fd hD hth r0 (g := GG_150) rfl (k := 11) (t := (0, 0, 2000, [])) rfl rfl)
  have kz_0_157 : 0 ≤ w_fi ws (n_v vs 0) 157 ∧ w_fi ws (n_v vs 0) 157 ≤ 2010 := tv_rng (th_fd hD hth r0 (g := GG_150) rfl (k := 157) (t := (0, 0, 2010, [])) rfl rfl)
  obtain ⟨x, ex, hx⟩ := iv_ex (ta := ta) (lo := 0) (hi := 4001) (z := 0 + (1 * v_iv (n_v vs 10) + 0)) (by omega) (by omega) (by decide) (by decide)
  have ex2 : v_iv (Value.int x) = 0 + (1 * v_iv (n_v vs 10) + 0) := ex
  have ex3 : 0 ≤ v_iv (Value.int x) ∧ v_iv (Value.int x) ≤ 4001 := tv_rng hx
  have e_0 : n_v (vs ++ [Value.int x]) 0 = n_v vs 0 := n_v_old (by rw [hl]; decide)
  have e_2 : n_v (vs ++ [Value.int x]) 2 = n_v vs 2 := n_v_old (by rw [hl]; decide)
  have e_6 : n_v (vs ++ [Value.int x]) 6 = n_v vs 6 := n_v_old (by rw [hl]; decide)
  have e_17 : n_v (vs ++ [Value.int x]) 17 = n_v vs 17 := n_v_old (by rw [hl]; decide)
  have e_18 : n_v (vs ++ [Value.int x]) 18 = Value.int x := n_v_new hl
  have nf0 : fc_1 (20, [2, 6, 17], [50, 2, 0, 157, 11, 2, 7, 0, 3, 2, 0, 157, 1, 1, 2, 7, 0, 2, 1, 1, 2, 0, 11, 3, 6, 1, 2, 1, 2, 0, 0, 3, 6, 1, 2, 1, 2, 0, 4, 0, 6, 4, 2, 1, 1, 0, 1, 2, 0, 11]) ws (vs ++ [Value.int x]) := by
    refine ⟨fun n hn => ?_, ?_⟩
    · have hn : n ∈ [2, 6, 17] := hn
      rw [List.length_append, hl]
      simp only [List.mem_cons, List.not_mem_nil, or_false] at hn
      show n < 18 + 1; omega
    · show (w_fi ws (n_v (vs ++ [Value.int x]) 2) 157 ≤ v_iv (n_v (vs ++ [Value.int x]) 6)) ∧ ((v_iv (n_v (vs ++ [Value.int x]) 6) ≤ w_fi ws (n_v (vs ++ [Value.int x]) 2) 11) ∧ ((v_iv (n_v (vs ++ [Value.int x]) 17) = 0) ∨ ((v_iv (n_v (vs ++ [Value.int x]) 17) = 4) ∨ ((v_iv (n_v (vs ++ [Value.int x]) 6) + 1) ≤ w_fi ws (n_v (vs ++ [Value.int x]) 2) 11))))
      rw [e_2]
      rw [e_6]
      rw [e_17]
      rw [q2]
      first | omega | grind
  have nf1 : fc_1 (20, [18, 6], [30, -4001, -1, 0, 0, -2, 0, 0]) ws (vs ++ [Value.int x]) := by
    refine ⟨fun n hn => ?_, ?_⟩
    · have hn : n ∈ [18, 6] := hn
      rw [List.length_append, hl]
      simp only [List.mem_cons, List.not_mem_nil, or_false] at hn
      show n < 18 + 1; omega
    · show (-1) * v_iv (n_v (vs ++ [Value.int x]) 18) + ((-2) * v_iv (n_v (vs ++ [Value.int x]) 6) + 0) ≤ (-4001)
      rw [e_6]
      rw [e_18]
      omega
  have nf2 : fc_1 (24, [0, 2], []) ws (vs ++ [Value.int x]) := by
    refine ⟨fun n hn => ?_, ?_⟩
    · have hn : n ∈ [0, 2] := hn
      rw [List.length_append, hl]
      simp only [List.mem_cons, List.not_mem_nil, or_false] at hn
      show n < 18 + 1; omega
    · show n_v (vs ++ [Value.int x]) 0 = n_v (vs ++ [Value.int x]) 2
      first | rfl | simp only [e_0, e_2, q2]
  obtain ⟨x0, e0, _, _⟩ := tv_int t10 rfl
  have e1 : v_iv (n_v vs 10) = x0.toInt := by rw [e0]; rfl
  have ho : sy_ofs (vs ++ [Value.int x]) (18, 10, 0, 0) := by
    refine ⟨x, x0, by rw [List.getElem?_append_right (by rw [hl]; decide), hl]; rfl, ?_, ?_, ?_⟩
    · rw [List.getElem?_append_left (by rw [hl]; decide)]; exact n_v_some (by rw [hl]; decide) e0
    · show x0.toInt + 0 ≤ x.toInt; omega
    · show x.toInt ≤ x0.toInt + 0; omega
  exact ⟨fun q hq => (by cases hq), [Value.int x], ag_one hx, List.forall_mem_cons.mpr ⟨⟨by decide, nf0⟩, List.forall_mem_cons.mpr ⟨⟨by decide, nf1⟩, List.forall_mem_cons.mpr ⟨⟨by decide, nf2⟩, (fun _ h => (by cases h))⟩⟩⟩, List.forall_mem_cons.mpr ⟨ho, (fun _ h => (by cases h))⟩⟩
def o_Mo_styleTokens_164 : or_T := (103, 17, [(0, (2, 0, 0, [150])), (2, (2, 0, 0, [150])), (6, (0, 0, 1999, [])), (9, (0, 0, 1999, [])), (10, (0, 0, 4001, [])), (11, (0, 97, 122, [])), (15, (0, 1, 1, [])), (16, (0, 1, 2000, []))], [(20, [9, 2, 11], [50, 1, 1, 1010, 1001, 4, 11, 0, 6, 4, 2, 1, 0, 0, 1, 2, 1, 10, 1, 2, 1, 2, 9, 5, 3, 1, 1, 1, 0, 0, 256]), (20, [2, 9, 11], [50, 1, 0, 10, 4, 7, 0, 3, 2, 0, 10, 1, 1, 1, 2, 1, 2, 0, -1]), (20, [10, 6], [30, -4001, -1, 0, 0, -2, 0, 0]), (24, [0, 2], []), (101, [2, 16], [11]), (1, [16, 9, 15], []), (9, [9, 2], [11]), (20, [9, 2, 11], [50, 1, 1, 1010, 1001, 4, 11, 0, 6, 4, 2, 1, 0, 0, 1, 2, 1, 10, 1, 2, 1, 2, 9, 5, 3, 1, 1, 1, 0, 0, 256]), (20, [2, 9, 11], [50, 1, 0, 10, 4, 7, 0, 3, 2, 0, 10, 1, 1, 1, 2, 1, 2, 0, -1]), (20, [2, 6], [50, 3, 1, 157, 11, 10, 1, 2, 7, 0, 3, 2, 0, 157, 1, 1, 2, 7, 0, 2, 1, 1, 2, 0, 11, 3, 11, 0, 6, 4, 2, 1, 1, 0, 1, 2, 0, 11, 2, 7, 1, 3, 2, 0, 11, 1, 1, 2, 11, 0, 6, 4, 2, 1, 1, 0, 1, 2, 0, 10, 2, 13, 0, 2, 0, 97, 9, 5, 3, 0, 1, 1, 1, 0, 256, 0, 9, 9, 5, 3, 0, 1, 1, 1, 0, 256, 0, 122]), (20, [10, 6], [30, -4001, -1, 0, 0, -2, 0, 0])], [], [], [(20, [2, 6], [50, 3, 1, 157, 11, 10, 1, 2, 7, 0, 3, 2, 0, 157, 1, 1, 2, 7, 0, 2, 1, 1, 2, 0, 11, 3, 11, 0, 6, 4, 2, 1, 1, 0, 1, 2, 0, 11, 2, 7, 1, 3, 2, 0, 11, 1, 1, 2, 11, 0, 6, 4, 2, 1, 1, 0, 1, 2, 0, 10, 2, 13, 0, 2, 0, 97, 9, 5, 3, 0, 1, 1, 1, 0, 256, 0, 9, 9, 5, 3, 0, 1, 1, 1, 0, 256, 0, 122])], [], [(16, 9, 1, 1), (6, 9, -4294967296, 0)])
theorem oo_Mo_styleTokens_164 {kA : Nat → ClassId} : or_ok kA GG o_Mo_styleTokens_164 := by
  intro A ta ws vs hD hth hl hk hds hf
  have hl : vs.length = 17 := hl
  have hk : ∀ q ∈ ([(0, (2, 0, 0, [150])), (2, (2, 0, 0, [150])), (6, (0, 0, 1999, [])), (9, (0, 0, 1999, [])), (10, (0, 0, 4001, [])), (11, (0, 97, 122, [])), (15, (0, 1, 1, [])), (16, (0, 1, 2000, []))] : List (Nat × tv_T)), tv_ok ta q.2 (n_v vs q.1) := hk
  obtain ⟨t0, hk⟩ := List.forall_mem_cons.mp hk
  have t0 : tv_ok ta (2, 0, 0, [150]) (n_v vs 0) := t0
  have r0 : ta (v_ad (n_v vs 0)) = some 150 := tv_rg t0
  obtain ⟨t2, hk⟩ := List.forall_mem_cons.mp hk
  have t2 : tv_ok ta (2, 0, 0, [150]) (n_v vs 2) := t2
  have r2 : ta (v_ad (n_v vs 2)) = some 150 := tv_rg t2
  obtain ⟨t6, hk⟩ := List.forall_mem_cons.mp hk
  have t6 : tv_ok ta (0, 0, 1999, []) (n_v vs 6) := t6
  have k6 : 0 ≤ v_iv (n_v vs 6) ∧ v_iv (n_v vs 6) ≤ 1999 := tv_rng t6
  obtain ⟨t9, hk⟩ := List.forall_mem_cons.mp hk
  have t9 : tv_ok ta (0, 0, 1999, []) (n_v vs 9) := t9
  have k9 : 0 ≤ v_iv (n_v vs 9) ∧ v_iv (n_v vs 9) ≤ 1999 := tv_rng t9
  obtain ⟨t10, hk⟩ := List.forall_mem_cons.mp hk
  have t10 : tv_ok ta (0, 0, 4001, []) (n_v vs 10) := t10
  have k10 : 0 ≤ v_iv (n_v vs 10) ∧ v_iv (n_v vs 10) ≤ 4001 := tv_rng t10
  obtain ⟨t11, hk⟩ := List.forall_mem_cons.mp hk
  have t11 : tv_ok ta (0, 97, 122, []) (n_v vs 11) := t11
  have k11 : 97 ≤ v_iv (n_v vs 11) ∧ v_iv (n_v vs 11) ≤ 122 := tv_rng t11
  obtain ⟨t15, hk⟩ := List.forall_mem_cons.mp hk
  have t15 : tv_ok ta (0, 1, 1, []) (n_v vs 15) := t15
  have k15 : 1 ≤ v_iv (n_v vs 15) ∧ v_iv (n_v vs 15) ≤ 1 := tv_rng t15
  obtain ⟨t16, hk⟩ := List.forall_mem_cons.mp hk
  have t16 : tv_ok ta (0, 1, 2000, []) (n_v vs 16) := t16
  have k16 : 1 ≤ v_iv (n_v vs 16) ∧ v_iv (n_v vs 16) ≤ 2000 := tv_rng t16
  have hds : ∀ q ∈ ([(16, 9, 1, 1), (6, 9, -4294967296, 0)] : List of_T), n_iv vs q.2.1 + q.2.2.1 ≤ n_iv vs q.1 ∧ n_iv vs q.1 ≤ n_iv vs q.2.1 + q.2.2.2 := hds
  obtain ⟨d0, hds⟩ := List.forall_mem_cons.mp hds
  have d0 : v_iv (n_v vs 9) + 1 ≤ v_iv (n_v vs 16) ∧ v_iv (n_v vs 16) ≤ v_iv (n_v vs 9) + 1 := d0
  obtain ⟨d1, hds⟩ := List.forall_mem_cons.mp hds
  have d1 : v_iv (n_v vs 9) + (-4294967296) ≤ v_iv (n_v vs 6) ∧ v_iv (n_v vs 6) ≤ v_iv (n_v vs 9) + 0 := d1
  have hf : fc_ok [(20, [9, 2, 11], [50, 1, 1, 1010, 1001, 4, 11, 0, 6, 4, 2, 1, 0, 0, 1, 2, 1, 10, 1, 2, 1, 2, 9, 5, 3, 1, 1, 1, 0, 0, 256]), (20, [2, 9, 11], [50, 1, 0, 10, 4, 7, 0, 3, 2, 0, 10, 1, 1, 1, 2, 1, 2, 0, -1]), (20, [10, 6], [30, -4001, -1, 0, 0, -2, 0, 0]), (24, [0, 2], []), (101, [2, 16], [11]), (1, [16, 9, 15], []), (9, [9, 2], [11]), (20, [9, 2, 11], [50, 1, 1, 1010, 1001, 4, 11, 0, 6, 4, 2, 1, 0, 0, 1, 2, 1, 10, 1, 2, 1, 2, 9, 5, 3, 1, 1, 1, 0, 0, 256]), (20, [2, 9, 11], [50, 1, 0, 10, 4, 7, 0, 3, 2, 0, 10, 1, 1, 1, 2, 1, 2, 0, -1]), (20, [2, 6], [50, 3, 1, 157, 11, 10, 1, 2, 7, 0, 3, 2, 0, 157, 1, 1, 2, 7, 0, 2, 1, 1, 2, 0, 11, 3, 11, 0, 6, 4, 2, 1, 1, 0, 1, 2, 0, 11, 2, 7, 1, 3, 2, 0, 11, 1, 1, 2, 11, 0, 6, 4, 2, 1, 1, 0, 1, 2, 0, 10, 2, 13, 0, 2, 0, 97, 9, 5, 3, 0, 1, 1, 1, 0, 256, 0, 9, 9, 5, 3, 0, 1, 1, 1, 0, 256, 0, 122]), (20, [10, 6], [30, -4001, -1, 0, 0, -2, 0, 0])] ta ws vs := hf
  obtain ⟨f0, hf⟩ := fc_un (by decide) hf
  have f0 : ((v_iv (n_v vs 9) + 1) ≤ w_fi ws (n_v vs 2) 10) → (v_iv (n_v vs 11) = (w_ei ws (w_ar ws (n_v vs 2) 1) (v_iv (n_v vs 9)) % 256)) := f0
  obtain ⟨f1, hf⟩ := fc_un (by decide) hf
  have f1 : (w_fi ws (n_v vs 2) 10 ≤ v_iv (n_v vs 9)) → (v_iv (n_v vs 11) = (-1)) := f1
  obtain ⟨f2, hf⟩ := fc_un (by decide) hf
  have f2 : (-1) * v_iv (n_v vs 10) + ((-2) * v_iv (n_v vs 6) + 0) ≤ (-4001) := f2
  obtain ⟨f3, hf⟩ := fc_un (by decide) hf
  have f3 : n_v vs 0 = n_v vs 2 := f3
  obtain ⟨ta1, w1, le1, ⟨_, s1⟩, hf⟩ := fc_us (by decide) hf
  have s1 : (∀ b j, w_el ws b j = w_el w1 b j) ∧ ∀ b j, w_fd ws b j = if b = v_ad (n_v vs 2) ∧ j = 11 then n_v vs 16 else w_fd w1 b j := s1
  obtain ⟨f5, hf⟩ := fc_un (by decide) hf
  have f5 : v_iv (n_v vs 16) = v_iv (n_v vs 9) + v_iv (n_v vs 15) := f5
  obtain ⟨f6, hf⟩ := fc_un (by decide) hf
  have f6 : n_v vs 9 = w_fd w1 (v_ad (n_v vs 2)) 11 := f6
  obtain ⟨f7, hf⟩ := fc_un (by decide) hf
  have f7 : ((v_iv (n_v vs 9) + 1) ≤ w_fi w1 (n_v vs 2) 10) → (v_iv (n_v vs 11) = (w_ei w1 (w_ar w1 (n_v vs 2) 1) (v_iv (n_v vs 9)) % 256)) := f7
  obtain ⟨f8, hf⟩ := fc_un (by decide) hf
  have f8 : (w_fi w1 (n_v vs 2) 10 ≤ v_iv (n_v vs 9)) → (v_iv (n_v vs 11) = (-1)) := f8
  obtain ⟨f9, hf⟩ := fc_un (by decide) hf
  have f9 : (w_fi w1 (n_v vs 2) 157 ≤ v_iv (n_v vs 6)) ∧ ((v_iv (n_v vs 6) ≤ w_fi w1 (n_v vs 2) 11) ∧ (((v_iv (n_v vs 6) + 1) ≤ w_fi w1 (n_v vs 2) 11) ∨ ((w_fi w1 (n_v vs 2) 11 = v_iv (n_v vs 6)) ∧ (((v_iv (n_v vs 6) + 1) ≤ w_fi w1 (n_v vs 2) 10) ∧ ((97 ≤ (w_ei w1 (w_ar w1 (n_v vs 2) 1) (v_iv (n_v vs 6)) % 256)) ∧ ((w_ei w1 (w_ar w1 (n_v vs 2) 1) (v_iv (n_v vs 6)) % 256) ≤ 122)))))) := f9
  obtain ⟨f10, hf⟩ := fc_un (by decide) hf
  have f10 : (-1) * v_iv (n_v vs 10) + ((-2) * v_iv (n_v vs 6) + 0) ≤ (-4001) := f10
  have q2 : n_v vs 2 = n_v vs 0 := f3.symm
  rw [q2] at f0
  rw [q2] at f1
  rw [q2] at s1
  rw [q2] at f6
  rw [q2] at f7
  rw [q2] at f8
  rw [q2] at f9
  have ar_0_1_1 : w_ar w1 (n_v vs 0) 1 = w_ar ws (n_v vs 0) 1 := by show v_ad (w_fd w1 _ _) = v_ad (w_fd ws _ _); rw [s1.2, if_neg (fun e => absurd e.2 (by decide))]
  have cr_0_1 : ta (w_ar ws (n_v vs 0) 1) = some 151 := tv_rg (th_fd hD hth r0 (g := GG_150) rfl (k := 1) (t := (2, 0, 0, [151])) rfl rfl)
  have g6 : v_iv (n_v vs 9) = w_fi w1 (n_v vs 0) 11 := congrArg v_iv f6
  rw [ar_0_1_1] at f7
  rw [ar_0_1_1] at f9
  have fe_0_10_1 : w_fi ws (n_v vs 0) 10 = w_fi w1 (n_v vs 0) 10 := by show v_iv (w_fd _ _ _) = v_iv (w_fd _ _ _); rw [s1.2, if_neg (fun e => absurd e.2 (by decide))]
  have fe_0_11_1 : w_fi ws (n_v vs 0) 11 = v_iv (n_v vs 16) := by show v_iv (w_fd _ _ _) = _; rw [s1.2, if_pos ⟨rfl, rfl⟩]
  have fe_0_157_1 : w_fi ws (n_v vs 0) 157 = w_fi w1 (n_v vs 0) 157 := by show v_iv (w_fd _ _ _) = v_iv (w_fd _ _ _); rw [s1.2, if_neg (fun e => absurd e.2 (by decide))]
  have hE_0_1_1 : ∀ j : Int, w_ei ws (w_ar ws (n_v vs 0) 1) j = w_ei w1 (w_ar ws (n_v vs 0) 1) j := fun j => s1.1 _ _
  have hK_0_1 : ∀ j : Int, 0 ≤ j → j < 2000 → (-128) ≤ w_ei ws (w_ar ws (n_v vs 0) 1) j ∧ w_ei ws (w_ar ws (n_v vs 0) 1) j ≤ 127 := fun j h0 h1 => th_el hD hth cr_0_1 (kd := 1) (n := 2000) (m := 2000) (lo := (-128)) (hi := 127) (rs := []) (L := []) rfl (by decide) (j := j.toNat) (by omega)
  have kz_0_10 : 0 ≤ w_fi ws (n_v vs 0) 10 ∧ w_fi ws (n_v vs 0) 10 ≤ 2000 := tv_rng (th_fd hD hth r0 (g := GG_150) rfl (k := 10) (t := (0, 0, 2000, [])) rfl rfl)
  have kz_0_11 : 0 ≤ w_fi ws (n_v vs 0) 11 ∧ w_fi ws (n_v vs 0) 11 ≤ 2000 := tv_rng (th_fd hD hth r0 (g := GG_150) rfl (k := 11) (t := (0, 0, 2000, [])) rfl rfl)
  have kz_0_157 : 0 ≤ w_fi ws (n_v vs 0) 157 ∧ w_fi ws (n_v vs 0) 157 ≤ 2010 := tv_rng (th_fd hD hth r0 (g := GG_150) rfl (k := 157) (t := (0, 0, 2010, [])) rfl rfl)
  have nf0 : fc_1 (20, [2, 6], [50, 3, 1, 157, 11, 10, 1, 2, 7, 0, 3, 2, 0, 157, 1, 1, 2, 7, 0, 2, 1, 1, 2, 0, 11, 3, 11, 0, 6, 4, 2, 1, 1, 0, 1, 2, 0, 11, 2, 7, 1, 3, 2, 0, 11, 1, 1, 2, 11, 0, 6, 4, 2, 1, 1, 0, 1, 2, 0, 10, 2, 13, 0, 2, 0, 97, 9, 5, 3, 0, 1, 1, 1, 0, 256, 0, 9, 9, 5, 3, 0, 1, 1, 1, 0, 256, 0, 122]) ws (vs) := by
    refine ⟨fun n hn => ?_, ?_⟩
    · have hn : n ∈ [2, 6] := hn
      rw [hl]
      simp only [List.mem_cons, List.not_mem_nil, or_false] at hn
      show n < 17; omega
    · show (w_fi ws (n_v vs 2) 157 ≤ v_iv (n_v vs 6)) ∧ ((v_iv (n_v vs 6) ≤ w_fi ws (n_v vs 2) 11) ∧ (((v_iv (n_v vs 6) + 1) ≤ w_fi ws (n_v vs 2) 11) ∨ ((w_fi ws (n_v vs 2) 11 = v_iv (n_v vs 6)) ∧ (((v_iv (n_v vs 6) + 1) ≤ w_fi ws (n_v vs 2) 10) ∧ ((97 ≤ (w_ei ws (w_ar ws (n_v vs 2) 1) (v_iv (n_v vs 6)) % 256)) ∧ ((w_ei ws (w_ar ws (n_v vs 2) 1) (v_iv (n_v vs 6)) % 256) ≤ 122))))))
      rw [q2]
      first | omega | grind
  refine ⟨(fun _ h => (by cases h)), [], trivial, ?_, (fun _ h => (by cases h))⟩
  rw [List.append_nil]
  exact List.forall_mem_cons.mpr ⟨⟨by decide, nf0⟩, (fun _ h => (by cases h))⟩
def o_Mo_styleTokens_165 : or_T := (363, 16, [(0, (2, 0, 0, [150])), (2, (2, 0, 0, [150])), (6, (0, 0, 1999, [])), (9, (0, 5, 2000, [])), (10, (0, 0, 4001, [])), (11, (0, -1, -1, [])), (13, (0, 5, 2000, [])), (14, (0, 4, 4, [])), (15, (0, 4, 4, []))], [(7, [13, 14], [4]), (2, [13, 9, 6], []), (9, [9, 2], [11]), (20, [9, 2, 11], [50, 1, 1, 1010, 1001, 4, 11, 0, 6, 4, 2, 1, 0, 0, 1, 2, 1, 10, 1, 2, 1, 2, 9, 5, 3, 1, 1, 1, 0, 0, 256]), (20, [2, 9, 11], [50, 1, 0, 10, 4, 7, 0, 3, 2, 0, 10, 1, 1, 1, 2, 1, 2, 0, -1]), (20, [2, 6], [50, 3, 1, 157, 11, 10, 1, 2, 7, 0, 3, 2, 0, 157, 1, 1, 2, 7, 0, 2, 1, 1, 2, 0, 11, 3, 11, 0, 6, 4, 2, 1, 1, 0, 1, 2, 0, 11, 2, 7, 1, 3, 2, 0, 11, 1, 1, 2, 11, 0, 6, 4, 2, 1, 1, 0, 1, 2, 0, 10, 2, 13, 0, 2, 0, 48, 9, 5, 3, 0, 1, 1, 1, 0, 256, 0, 9, 9, 5, 3, 0, 1, 1, 1, 0, 256, 0, 57]), (20, [10, 6], [30, -4001, -1, 0, 0, -2, 0, 0]), (24, [0, 2], [])], [], [(0, 0, 4001, [])], [(20, [2, 6, 15], [50, 2, 0, 157, 11, 2, 7, 0, 3, 2, 0, 157, 1, 1, 2, 7, 0, 2, 1, 1, 2, 0, 11, 3, 6, 1, 2, 1, 2, 0, 0, 3, 6, 1, 2, 1, 2, 0, 4, 0, 6, 4, 2, 1, 1, 0, 1, 2, 0, 11]), (20, [16, 6], [30, -4001, -1, 0, 0, -2, 0, 0]), (24, [0, 2], [])], [(16, 10, 0, 0)], [(13, 9, -1999, 0), (6, 9, -4294967296, 0)])
theorem oo_Mo_styleTokens_165 {kA : Nat → ClassId} : or_ok kA GG o_Mo_styleTokens_165 := by
  intro A ta ws vs hD hth hl hk hds hf
  have hl : vs.length = 16 := hl
  have hk : ∀ q ∈ ([(0, (2, 0, 0, [150])), (2, (2, 0, 0, [150])), (6, (0, 0, 1999, [])), (9, (0, 5, 2000, [])), (10, (0, 0, 4001, [])), (11, (0, -1, -1, [])), (13, (0, 5, 2000, [])), (14, (0, 4, 4, [])), (15, (0, 4, 4, []))] : List (Nat × tv_T)), tv_ok ta q.2 (n_v vs q.1) := hk
  obtain ⟨t0, hk⟩ := List.forall_mem_cons.mp hk
  have t0 : tv_ok ta (2, 0, 0, [150]) (n_v vs 0) := t0
  have r0 : ta (v_ad (n_v vs 0)) = some 150 := tv_rg t0
  obtain ⟨t2, hk⟩ := List.forall_mem_cons.mp hk
  have t2 : tv_ok ta (2, 0, 0, [150]) (n_v vs 2) := t2
  have r2 : ta (v_ad (n_v vs 2)) = some 150 := tv_rg t2
  obtain ⟨t6, hk⟩ := List.forall_mem_cons.mp hk
  have t6 : tv_ok ta (0, 0, 1999, []) (n_v vs 6) := t6
  have k6 : 0 ≤ v_iv (n_v vs 6) ∧ v_iv (n_v vs 6) ≤ 1999 := tv_rng t6
  obtain ⟨t9, hk⟩ := List.forall_mem_cons.mp hk
  have t9 : tv_ok ta (0, 5, 2000, []) (n_v vs 9) := t9
  have k9 : 5 ≤ v_iv (n_v vs 9) ∧ v_iv (n_v vs 9) ≤ 2000 := tv_rng t9
  obtain ⟨t10, hk⟩ := List.forall_mem_cons.mp hk
  have t10 : tv_ok ta (0, 0, 4001, []) (n_v vs 10) := t10
  have k10 : 0 ≤ v_iv (n_v vs 10) ∧ v_iv (n_v vs 10) ≤ 4001 := tv_rng t10
  obtain ⟨t11, hk⟩ := List.forall_mem_cons.mp hk
  have t11 : tv_ok ta (0, -1, -1, []) (n_v vs 11) := t11
  have k11 : (-1) ≤ v_iv (n_v vs 11) ∧ v_iv (n_v vs 11) ≤ (-1) := tv_rng t11
  obtain ⟨t13, hk⟩ := List.forall_mem_cons.mp hk
  have t13 : tv_ok ta (0, 5, 2000, []) (n_v vs 13) := t13
  have k13 : 5 ≤ v_iv (n_v vs 13) ∧ v_iv (n_v vs 13) ≤ 2000 := tv_rng t13
  obtain ⟨t14, hk⟩ := List.forall_mem_cons.mp hk
  have t14 : tv_ok ta (0, 4, 4, []) (n_v vs 14) := t14
  have k14 : 4 ≤ v_iv (n_v vs 14) ∧ v_iv (n_v vs 14) ≤ 4 := tv_rng t14
  obtain ⟨t15, hk⟩ := List.forall_mem_cons.mp hk
  have t15 : tv_ok ta (0, 4, 4, []) (n_v vs 15) := t15
  have k15 : 4 ≤ v_iv (n_v vs 15) ∧ v_iv (n_v vs 15) ≤ 4 := tv_rng t15
  have hds : ∀ q ∈ ([(13, 9, -1999, 0), (6, 9, -4294967296, 0)] : List of_T), n_iv vs q.2.1 + q.2.2.1 ≤ n_iv vs q.1 ∧ n_iv vs q.1 ≤ n_iv vs q.2.1 + q.2.2.2 := hds
  obtain ⟨d0, hds⟩ := List.forall_mem_cons.mp hds
  have d0 : v_iv (n_v vs 9) + (-1999) ≤ v_iv (n_v vs 13) ∧ v_iv (n_v vs 13) ≤ v_iv (n_v vs 9) + 0 := d0
  obtain ⟨d1, hds⟩ := List.forall_mem_cons.mp hds
  have d1 : v_iv (n_v vs 9) + (-4294967296) ≤ v_iv (n_v vs 6) ∧ v_iv (n_v vs 6) ≤ v_iv (n_v vs 9) + 0 := d1
  have hf : fc_ok [(7, [13, 14], [4]), (2, [13, 9, 6], []), (9, [9, 2], [11]), (20, [9, 2, 11], [50, 1, 1, 1010, 1001, 4, 11, 0, 6, 4, 2, 1, 0, 0, 1, 2, 1, 10, 1, 2, 1, 2, 9, 5, 3, 1, 1, 1, 0, 0, 256]), (20, [2, 9, 11], [50, 1, 0, 10, 4, 7, 0, 3, 2, 0, 10, 1, 1, 1, 2, 1, 2, 0, -1]), (20, [2, 6], [50, 3, 1, 157, 11, 10, 1, 2, 7, 0, 3, 2, 0, 157, 1, 1, 2, 7, 0, 2, 1, 1, 2, 0, 11, 3, 11, 0, 6, 4, 2, 1, 1, 0, 1, 2, 0, 11, 2, 7, 1, 3, 2, 0, 11, 1, 1, 2, 11, 0, 6, 4, 2, 1, 1, 0, 1, 2, 0, 10, 2, 13, 0, 2, 0, 48, 9, 5, 3, 0, 1, 1, 1, 0, 256, 0, 9, 9, 5, 3, 0, 1, 1, 1, 0, 256, 0, 57]), (20, [10, 6], [30, -4001, -1, 0, 0, -2, 0, 0]), (24, [0, 2], [])] ta ws vs := hf
  obtain ⟨f0, hf⟩ := fc_un (by decide) hf
  have f0 : v_iv (n_v vs 14) < v_iv (n_v vs 13) := f0
  obtain ⟨f1, hf⟩ := fc_un (by decide) hf
  have f1 : v_iv (n_v vs 13) = v_iv (n_v vs 9) - v_iv (n_v vs 6) := f1
  obtain ⟨f2, hf⟩ := fc_un (by decide) hf
  have f2 : n_v vs 9 = w_fd ws (v_ad (n_v vs 2)) 11 := f2
  obtain ⟨f3, hf⟩ := fc_un (by decide) hf
  have f3 : ((v_iv (n_v vs 9) + 1) ≤ w_fi ws (n_v vs 2) 10) → (v_iv (n_v vs 11) = (w_ei ws (w_ar ws (n_v vs 2) 1) (v_iv (n_v vs 9)) % 256)) := f3
  obtain ⟨f4, hf⟩ := fc_un (by decide) hf
  have f4 : (w_fi ws (n_v vs 2) 10 ≤ v_iv (n_v vs 9)) → (v_iv (n_v vs 11) = (-1)) := f4
  obtain ⟨f5, hf⟩ := fc_un (by decide) hf
  have f5 : (w_fi ws (n_v vs 2) 157 ≤ v_iv (n_v vs 6)) ∧ ((v_iv (n_v vs 6) ≤ w_fi ws (n_v vs 2) 11) ∧ (((v_iv (n_v vs 6) + 1) ≤ w_fi ws (n_v vs 2) 11) ∨ ((w_fi ws (n_v vs 2) 11 = v_iv (n_v vs 6)) ∧ (((v_iv (n_v vs 6) + 1) ≤ w_fi ws (n_v vs 2) 10) ∧ ((48 ≤ (w_ei ws (w_ar ws (n_v vs 2) 1) (v_iv (n_v vs 6)) % 256)) ∧ ((w_ei ws (w_ar ws (n_v vs 2) 1) (v_iv (n_v vs 6)) % 256) ≤ 57)))))) := f5
  obtain ⟨f6, hf⟩ := fc_un (by decide) hf
  have f6 : (-1) * v_iv (n_v vs 10) + ((-2) * v_iv (n_v vs 6) + 0) ≤ (-4001) := f6
  obtain ⟨f7, hf⟩ := fc_un (by decide) hf
  have f7 : n_v vs 0 = n_v vs 2 := f7
  have q2 : n_v vs 2 = n_v vs 0 := f7.symm
  rw [q2] at f2
  rw [q2] at f3
  rw [q2] at f4
  rw [q2] at f5
  have cr_0_1 : ta (w_ar ws (n_v vs 0) 1) = some 151 := tv_rg (th_fd hD hth r0 (g := GG_150) rfl (k := 1) (t := (2, 0, 0, [151])) rfl rfl)
  have g2 : v_iv (n_v vs 9) = w_fi ws (n_v vs 0) 11 := congrArg v_iv f2
  have hK_0_1 : ∀ j : Int, 0 ≤ j → j < 2000 → (-128) ≤ w_ei ws (w_ar ws (n_v vs 0) 1) j ∧ w_ei ws (w_ar ws (n_v vs 0) 1) j ≤ 127 := fun j h0 h1 => th_el hD hth cr_0_1 (kd := 1) (n := 2000) (m := 2000) (lo := (-128)) (hi := 127) (rs := []) (L := []) rfl (by decide) (j := j.toNat) (by omega)
  have kz_0_10 : 0 ≤ w_fi ws (n_v vs 0) 10 ∧ w_fi ws (n_v vs 0) 10 ≤ 2000 := tv_rng (th_fd hD hth r0 (g := GG_150) rfl (k := 10) (t := (0, 0, 2000, [])) rfl rfl)
  have kz_0_11 : 0 ≤ w_fi ws (n_v vs 0) 11 ∧ w_fi ws (n_v vs 0) 11 ≤ 2000 := tv_rng (th_fd hD hth r0 (g := GG_150) rfl (k := 11) (t := (0, 0, 2000, [])) rfl rfl)
  have kz_0_157 : 0 ≤ w_fi ws (n_v vs 0) 157 ∧ w_fi ws (n_v vs 0) 157 ≤ 2010 := tv_rng (th_fd hD hth r0 (g := GG_150) rfl (k := 157) (t := (0, 0, 2010, [])) rfl rfl)
  obtain ⟨x, ex, hx⟩ := iv_ex (ta := ta) (lo := 0) (hi := 4001) (z := 0 + (1 * v_iv (n_v vs 10) + 0)) (by omega) (by omega) (by decide) (by decide)
  have ex2 : v_iv (Value.int x) = 0 + (1 * v_iv (n_v vs 10) + 0) := ex
  have ex3 : 0 ≤ v_iv (Value.int x) ∧ v_iv (Value.int x) ≤ 4001 := tv_rng hx
  have e_0 : n_v (vs ++ [Value.int x]) 0 = n_v vs 0 := n_v_old (by rw [hl]; decide)
  have e_2 : n_v (vs ++ [Value.int x]) 2 = n_v vs 2 := n_v_old (by rw [hl]; decide)
  have e_6 : n_v (vs ++ [Value.int x]) 6 = n_v vs 6 := n_v_old (by rw [hl]; decide)
  have e_15 : n_v (vs ++ [Value.int x]) 15 = n_v vs 15 := n_v_old (by rw [hl]; decide)
  have e_16 : n_v (vs ++ [Value.int x]) 16 = Value.int x := n_v_new hl
  have nf0 : fc_1 (20, [2, 6, 15], [50, 2, 0, 157, 11, 2, 7, 0, 3, 2, 0, 157, 1, 1, 2, 7, 0, 2, 1, 1, 2, 0, 11, 3, 6, 1, 2, 1, 2, 0, 0, 3, 6, 1, 2, 1, 2, 0, 4, 0, 6, 4, 2, 1, 1, 0, 1, 2, 0, 11]) ws (vs ++ [Value.int x]) := by
    refine ⟨fun n hn => ?_, ?_⟩
    · have hn : n ∈ [2, 6, 15] := hn
      rw [List.length_append, hl]
      simp only [List.mem_cons, List.not_mem_nil, or_false] at hn
      show n < 16 + 1; omega
    · show (w_fi ws (n_v (vs ++ [Value.int x]) 2) 157 ≤ v_iv (n_v (vs ++ [Value.int x]) 6)) ∧ ((v_iv (n_v (vs ++ [Value.int x]) 6) ≤ w_fi ws (n_v (vs ++ [Value.int x]) 2) 11) ∧ ((v_iv (n_v (vs ++ [Value.int x]) 15) = 0) ∨ ((v_iv (n_v (vs ++ [Value.int x]) 15) = 4) ∨ ((v_iv (n_v (vs ++ [Value.int x]) 6) + 1) ≤ w_fi ws (n_v (vs ++ [Value.int x]) 2) 11))))
      rw [e_2]
      rw [e_6]
      rw [e_15]
      rw [q2]
      first | omega | grind
  have nf1 : fc_1 (20, [16, 6], [30, -4001, -1, 0, 0, -2, 0, 0]) ws (vs ++ [Value.int x]) := by
    refine ⟨fun n hn => ?_, ?_⟩
    · have hn : n ∈ [16, 6] := hn
      rw [List.length_append, hl]
      simp only [List.mem_cons, List.not_mem_nil, or_false] at hn
      show n < 16 + 1; omega
    · show (-1) * v_iv (n_v (vs ++ [Value.int x]) 16) + ((-2) * v_iv (n_v (vs ++ [Value.int x]) 6) + 0) ≤ (-4001)
      rw [e_6]
      rw [e_16]
      omega
  have nf2 : fc_1 (24, [0, 2], []) ws (vs ++ [Value.int x]) := by
    refine ⟨fun n hn => ?_, ?_⟩
    · have hn : n ∈ [0, 2] := hn
      rw [List.length_append, hl]
      simp only [List.mem_cons, List.not_mem_nil, or_false] at hn
      show n < 16 + 1; omega
    · show n_v (vs ++ [Value.int x]) 0 = n_v (vs ++ [Value.int x]) 2
      first | rfl | simp only [e_0, e_2, q2]
  obtain ⟨x0, e0, _, _⟩ := tv_int t10 rfl
  have e1 : v_iv (n_v vs 10) = x0.toInt := by rw [e0]; rfl
  have ho : sy_ofs (vs ++ [Value.int x]) (16, 10, 0, 0) := by
    refine ⟨x, x0, by rw [List.getElem?_append_right (by rw [hl]; decide), hl]; rfl, ?_, ?_, ?_⟩
    · rw [List.getElem?_append_left (by rw [hl]; decide)]; exact n_v_some (by rw [hl]; decide) e0
    · show x0.toInt + 0 ≤ x.toInt; omega
    · show x.toInt ≤ x0.toInt + 0; omega
  exact ⟨fun q hq => (by cases hq), [Value.int x], ag_one hx, List.forall_mem_cons.mpr ⟨⟨by decide, nf0⟩, List.forall_mem_cons.mpr ⟨⟨by decide, nf1⟩, List.forall_mem_cons.mpr ⟨⟨by decide, nf2⟩, (fun _ h => (by cases h))⟩⟩⟩, List.forall_mem_cons.mpr ⟨ho, (fun _ h => (by cases h))⟩⟩
def o_Mo_styleTokens_166 : or_T := (363, 16, [(0, (2, 0, 0, [150])), (2, (2, 0, 0, [150])), (6, (0, 0, 1999, [])), (9, (0, 0, 2000, [])), (10, (0, 0, 4001, [])), (11, (0, -1, -1, [])), (13, (0, 0, 4, [])), (14, (0, 4, 4, [])), (15, (0, 2, 2, []))], [(7, [13, 14], [5]), (2, [13, 9, 6], []), (9, [9, 2], [11]), (20, [9, 2, 11], [50, 1, 1, 1010, 1001, 4, 11, 0, 6, 4, 2, 1, 0, 0, 1, 2, 1, 10, 1, 2, 1, 2, 9, 5, 3, 1, 1, 1, 0, 0, 256]), (20, [2, 9, 11], [50, 1, 0, 10, 4, 7, 0, 3, 2, 0, 10, 1, 1, 1, 2, 1, 2, 0, -1]), (20, [2, 6], [50, 3, 1, 157, 11, 10, 1, 2, 7, 0, 3, 2, 0, 157, 1, 1, 2, 7, 0, 2, 1, 1, 2, 0, 11, 3, 11, 0, 6, 4, 2, 1, 1, 0, 1, 2, 0, 11, 2, 7, 1, 3, 2, 0, 11, 1, 1, 2, 11, 0, 6, 4, 2, 1, 1, 0, 1, 2, 0, 10, 2, 13, 0, 2, 0, 48, 9, 5, 3, 0, 1, 1, 1, 0, 256, 0, 9, 9, 5, 3, 0, 1, 1, 1, 0, 256, 0, 57]), (20, [10, 6], [30, -4001, -1, 0, 0, -2, 0, 0]), (24, [0, 2], [])], [], [(0, 0, 4001, [])], [(20, [2, 6, 15], [50, 2, 0, 157, 11, 2, 7, 0, 3, 2, 0, 157, 1, 1, 2, 7, 0, 2, 1, 1, 2, 0, 11, 3, 6, 1, 2, 1, 2, 0, 0, 3, 6, 1, 2, 1, 2, 0, 4, 0, 6, 4, 2, 1, 1, 0, 1, 2, 0, 11]), (20, [16, 6], [30, -4001, -1, 0, 0, -2, 0, 0]), (24, [0, 2], [])], [(16, 10, 0, 0)], [(13, 9, -1999, 0), (6, 9, -4294967296, 0)])
theorem oo_Mo_styleTokens_166 {kA : Nat → ClassId} : or_ok kA GG o_Mo_styleTokens_166 := by
  intro A ta ws vs hD hth hl hk hds hf
  have hl : vs.length = 16 := hl
  have hk : ∀ q ∈ ([(0, (2, 0, 0, [150])), (2, (2, 0, 0, [150])), (6, (0, 0, 1999, [])), (9, (0, 0, 2000, [])), (10, (0, 0, 4001, [])), (11, (0, -1, -1, [])), (13, (0, 0, 4, [])), (14, (0, 4, 4, [])), (15, (0, 2, 2, []))] : List (Nat × tv_T)), tv_ok ta q.2 (n_v vs q.1) := hk
  obtain ⟨t0, hk⟩ := List.forall_mem_cons.mp hk
  have t0 : tv_ok ta (2, 0, 0, [150]) (n_v vs 0) := t0
  have r0 : ta (v_ad (n_v vs 0)) = some 150 := tv_rg t0
  obtain ⟨t2, hk⟩ := List.forall_mem_cons.mp hk
  have t2 : tv_ok ta (2, 0, 0, [150]) (n_v vs 2) := t2
  have r2 : ta (v_ad (n_v vs 2)) = some 150 := tv_rg t2
  obtain ⟨t6, hk⟩ := List.forall_mem_cons.mp hk
  have t6 : tv_ok ta (0, 0, 1999, []) (n_v vs 6) := t6
  have k6 : 0 ≤ v_iv (n_v vs 6) ∧ v_iv (n_v vs 6) ≤ 1999 := tv_rng t6
  obtain ⟨t9, hk⟩ := List.forall_mem_cons.mp hk
  have t9 : tv_ok ta (0, 0, 2000, []) (n_v vs 9) := t9
  have k9 : 0 ≤ v_iv (n_v vs 9) ∧ v_iv (n_v vs 9) ≤ 2000 := tv_rng t9
  obtain ⟨t10, hk⟩ := List.forall_mem_cons.mp hk
  have t10 : tv_ok ta (0, 0, 4001, []) (n_v vs 10) := t10
  have k10 : 0 ≤ v_iv (n_v vs 10) ∧ v_iv (n_v vs 10) ≤ 4001 := tv_rng t10
  obtain ⟨t11, hk⟩ := List.forall_mem_cons.mp hk
  have t11 : tv_ok ta (0, -1, -1, []) (n_v vs 11) := t11
  have k11 : (-1) ≤ v_iv (n_v vs 11) ∧ v_iv (n_v vs 11) ≤ (-1) := tv_rng t11
  obtain ⟨t13, hk⟩ := List.forall_mem_cons.mp hk
  have t13 : tv_ok ta (0, 0, 4, []) (n_v vs 13) := t13
  have k13 : 0 ≤ v_iv (n_v vs 13) ∧ v_iv (n_v vs 13) ≤ 4 := tv_rng t13
  obtain ⟨t14, hk⟩ := List.forall_mem_cons.mp hk
  have t14 : tv_ok ta (0, 4, 4, []) (n_v vs 14) := t14
  have k14 : 4 ≤ v_iv (n_v vs 14) ∧ v_iv (n_v vs 14) ≤ 4 := tv_rng t14
  obtain ⟨t15, hk⟩ := List.forall_mem_cons.mp hk
  have t15 : tv_ok ta (0, 2, 2, []) (n_v vs 15) := t15
  have k15 : 2 ≤ v_iv (n_v vs 15) ∧ v_iv (n_v vs 15) ≤ 2 := tv_rng t15
  have hds : ∀ q ∈ ([(13, 9, -1999, 0), (6, 9, -4294967296, 0)] : List of_T), n_iv vs q.2.1 + q.2.2.1 ≤ n_iv vs q.1 ∧ n_iv vs q.1 ≤ n_iv vs q.2.1 + q.2.2.2 := hds
  obtain ⟨d0, hds⟩ := List.forall_mem_cons.mp hds
  have d0 : v_iv (n_v vs 9) + (-1999) ≤ v_iv (n_v vs 13) ∧ v_iv (n_v vs 13) ≤ v_iv (n_v vs 9) + 0 := d0
  obtain ⟨d1, hds⟩ := List.forall_mem_cons.mp hds
  have d1 : v_iv (n_v vs 9) + (-4294967296) ≤ v_iv (n_v vs 6) ∧ v_iv (n_v vs 6) ≤ v_iv (n_v vs 9) + 0 := d1
  have hf : fc_ok [(7, [13, 14], [5]), (2, [13, 9, 6], []), (9, [9, 2], [11]), (20, [9, 2, 11], [50, 1, 1, 1010, 1001, 4, 11, 0, 6, 4, 2, 1, 0, 0, 1, 2, 1, 10, 1, 2, 1, 2, 9, 5, 3, 1, 1, 1, 0, 0, 256]), (20, [2, 9, 11], [50, 1, 0, 10, 4, 7, 0, 3, 2, 0, 10, 1, 1, 1, 2, 1, 2, 0, -1]), (20, [2, 6], [50, 3, 1, 157, 11, 10, 1, 2, 7, 0, 3, 2, 0, 157, 1, 1, 2, 7, 0, 2, 1, 1, 2, 0, 11, 3, 11, 0, 6, 4, 2, 1, 1, 0, 1, 2, 0, 11, 2, 7, 1, 3, 2, 0, 11, 1, 1, 2, 11, 0, 6, 4, 2, 1, 1, 0, 1, 2, 0, 10, 2, 13, 0, 2, 0, 48, 9, 5, 3, 0, 1, 1, 1, 0, 256, 0, 9, 9, 5, 3, 0, 1, 1, 1, 0, 256, 0, 57]), (20, [10, 6], [30, -4001, -1, 0, 0, -2, 0, 0]), (24, [0, 2], [])] ta ws vs := hf
  obtain ⟨f0, hf⟩ := fc_un (by decide) hf
  have f0 : v_iv (n_v vs 13) ≤ v_iv (n_v vs 14) := f0
  obtain ⟨f1, hf⟩ := fc_un (by decide) hf
  have f1 : v_iv (n_v vs 13) = v_iv (n_v vs 9) - v_iv (n_v vs 6) := f1
  obtain ⟨f2, hf⟩ := fc_un (by decide) hf
  have f2 : n_v vs 9 = w_fd ws (v_ad (n_v vs 2)) 11 := f2
  obtain ⟨f3, hf⟩ := fc_un (by decide) hf
  have f3 : ((v_iv (n_v vs 9) + 1) ≤ w_fi ws (n_v vs 2) 10) → (v_iv (n_v vs 11) = (w_ei ws (w_ar ws (n_v vs 2) 1) (v_iv (n_v vs 9)) % 256)) := f3
  obtain ⟨f4, hf⟩ := fc_un (by decide) hf
  have f4 : (w_fi ws (n_v vs 2) 10 ≤ v_iv (n_v vs 9)) → (v_iv (n_v vs 11) = (-1)) := f4
  obtain ⟨f5, hf⟩ := fc_un (by decide) hf
  have f5 : (w_fi ws (n_v vs 2) 157 ≤ v_iv (n_v vs 6)) ∧ ((v_iv (n_v vs 6) ≤ w_fi ws (n_v vs 2) 11) ∧ (((v_iv (n_v vs 6) + 1) ≤ w_fi ws (n_v vs 2) 11) ∨ ((w_fi ws (n_v vs 2) 11 = v_iv (n_v vs 6)) ∧ (((v_iv (n_v vs 6) + 1) ≤ w_fi ws (n_v vs 2) 10) ∧ ((48 ≤ (w_ei ws (w_ar ws (n_v vs 2) 1) (v_iv (n_v vs 6)) % 256)) ∧ ((w_ei ws (w_ar ws (n_v vs 2) 1) (v_iv (n_v vs 6)) % 256) ≤ 57)))))) := f5
  obtain ⟨f6, hf⟩ := fc_un (by decide) hf
  have f6 : (-1) * v_iv (n_v vs 10) + ((-2) * v_iv (n_v vs 6) + 0) ≤ (-4001) := f6
  obtain ⟨f7, hf⟩ := fc_un (by decide) hf
  have f7 : n_v vs 0 = n_v vs 2 := f7
  have q2 : n_v vs 2 = n_v vs 0 := f7.symm
  rw [q2] at f2
  rw [q2] at f3
  rw [q2] at f4
  rw [q2] at f5
  have cr_0_1 : ta (w_ar ws (n_v vs 0) 1) = some 151 := tv_rg (th_fd hD hth r0 (g := GG_150) rfl (k := 1) (t := (2, 0, 0, [151])) rfl rfl)
  have g2 : v_iv (n_v vs 9) = w_fi ws (n_v vs 0) 11 := congrArg v_iv f2
  have hK_0_1 : ∀ j : Int, 0 ≤ j → j < 2000 → (-128) ≤ w_ei ws (w_ar ws (n_v vs 0) 1) j ∧ w_ei ws (w_ar ws (n_v vs 0) 1) j ≤ 127 := fun j h0 h1 => th_el hD hth cr_0_1 (kd := 1) (n := 2000) (m := 2000) (lo := (-128)) (hi := 127) (rs := []) (L := []) rfl (by decide) (j := j.toNat) (by omega)
  have kz_0_10 : 0 ≤ w_fi ws (n_v vs 0) 10 ∧ w_fi ws (n_v vs 0) 10 ≤ 2000 := tv_rng (th_fd hD hth r0 (g := GG_150) rfl (k := 10) (t := (0, 0, 2000, [])) rfl rfl)
  have kz_0_11 : 0 ≤ w_fi ws (n_v vs 0) 11 ∧ w_fi ws (n_v vs 0) 11 ≤ 2000 := tv_rng (th_fd hD hth r0 (g := GG_150) rfl (k := 11) (t := (0, 0, 2000, [])) rfl rfl)
  have kz_0_157 : 0 ≤ w_fi ws (n_v vs 0) 157 ∧ w_fi ws (n_v vs 0) 157 ≤ 2010 := tv_rng (th_fd hD hth r0 (g := GG_150) rfl (k := 157) (t := (0, 0, 2010, [])) rfl rfl)
  obtain ⟨x, ex, hx⟩ := iv_ex (ta := ta) (lo := 0) (hi := 4001) (z := 0 + (1 * v_iv (n_v vs 10) + 0)) (by omega) (by omega) (by decide) (by decide)
  have ex2 : v_iv (Value.int x) = 0 + (1 * v_iv (n_v vs 10) + 0) := ex
  have ex3 : 0 ≤ v_iv (Value.int x) ∧ v_iv (Value.int x) ≤ 4001 := tv_rng hx
  have e_0 : n_v (vs ++ [Value.int x]) 0 = n_v vs 0 := n_v_old (by rw [hl]; decide)
  have e_2 : n_v (vs ++ [Value.int x]) 2 = n_v vs 2 := n_v_old (by rw [hl]; decide)
  have e_6 : n_v (vs ++ [Value.int x]) 6 = n_v vs 6 := n_v_old (by rw [hl]; decide)
  have e_15 : n_v (vs ++ [Value.int x]) 15 = n_v vs 15 := n_v_old (by rw [hl]; decide)
  have e_16 : n_v (vs ++ [Value.int x]) 16 = Value.int x := n_v_new hl
  have nf0 : fc_1 (20, [2, 6, 15], [50, 2, 0, 157, 11, 2, 7, 0, 3, 2, 0, 157, 1, 1, 2, 7, 0, 2, 1, 1, 2, 0, 11, 3, 6, 1, 2, 1, 2, 0, 0, 3, 6, 1, 2, 1, 2, 0, 4, 0, 6, 4, 2, 1, 1, 0, 1, 2, 0, 11]) ws (vs ++ [Value.int x]) := by
    refine ⟨fun n hn => ?_, ?_⟩
    · have hn : n ∈ [2, 6, 15] := hn
      rw [List.length_append, hl]
      simp only [List.mem_cons, List.not_mem_nil, or_false] at hn
      show n < 16 + 1; omega
    · show (w_fi ws (n_v (vs ++ [Value.int x]) 2) 157 ≤ v_iv (n_v (vs ++ [Value.int x]) 6)) ∧ ((v_iv (n_v (vs ++ [Value.int x]) 6) ≤ w_fi ws (n_v (vs ++ [Value.int x]) 2) 11) ∧ ((v_iv (n_v (vs ++ [Value.int x]) 15) = 0) ∨ ((v_iv (n_v (vs ++ [Value.int x]) 15) = 4) ∨ ((v_iv (n_v (vs ++ [Value.int x]) 6) + 1) ≤ w_fi ws (n_v (vs ++ [Value.int x]) 2) 11))))
      rw [e_2]
      rw [e_6]
      rw [e_15]
      rw [q2]
      first | omega | grind
  have nf1 : fc_1 (20, [16, 6], [30, -4001, -1, 0, 0, -2, 0, 0]) ws (vs ++ [Value.int x]) := by
    refine ⟨fun n hn => ?_, ?_⟩
    · have hn : n ∈ [16, 6] := hn
      rw [List.length_append, hl]
      simp only [List.mem_cons, List.not_mem_nil, or_false] at hn
      show n < 16 + 1; omega
    · show (-1) * v_iv (n_v (vs ++ [Value.int x]) 16) + ((-2) * v_iv (n_v (vs ++ [Value.int x]) 6) + 0) ≤ (-4001)
      rw [e_6]
      rw [e_16]
      omega
  have nf2 : fc_1 (24, [0, 2], []) ws (vs ++ [Value.int x]) := by
    refine ⟨fun n hn => ?_, ?_⟩
    · have hn : n ∈ [0, 2] := hn
      rw [List.length_append, hl]
      simp only [List.mem_cons, List.not_mem_nil, or_false] at hn
      show n < 16 + 1; omega
    · show n_v (vs ++ [Value.int x]) 0 = n_v (vs ++ [Value.int x]) 2
      first | rfl | simp only [e_0, e_2, q2]
  obtain ⟨x0, e0, _, _⟩ := tv_int t10 rfl
  have e1 : v_iv (n_v vs 10) = x0.toInt := by rw [e0]; rfl
  have ho : sy_ofs (vs ++ [Value.int x]) (16, 10, 0, 0) := by
    refine ⟨x, x0, by rw [List.getElem?_append_right (by rw [hl]; decide), hl]; rfl, ?_, ?_, ?_⟩
    · rw [List.getElem?_append_left (by rw [hl]; decide)]; exact n_v_some (by rw [hl]; decide) e0
    · show x0.toInt + 0 ≤ x.toInt; omega
    · show x.toInt ≤ x0.toInt + 0; omega
  exact ⟨fun q hq => (by cases hq), [Value.int x], ag_one hx, List.forall_mem_cons.mpr ⟨⟨by decide, nf0⟩, List.forall_mem_cons.mpr ⟨⟨by decide, nf1⟩, List.forall_mem_cons.mpr ⟨⟨by decide, nf2⟩, (fun _ h => (by cases h))⟩⟩⟩, List.forall_mem_cons.mpr ⟨ho, (fun _ h => (by cases h))⟩⟩
def o_Mo_styleTokens_167 : or_T := (363, 16, [(0, (2, 0, 0, [150])), (2, (2, 0, 0, [150])), (6, (0, 0, 1999, [])), (9, (0, 5, 1999, [])), (10, (0, 0, 4001, [])), (11, (0, 0, 47, [])), (13, (0, 5, 1999, [])), (14, (0, 4, 4, [])), (15, (0, 4, 4, []))], [(7, [13, 14], [4]), (2, [13, 9, 6], []), (9, [9, 2], [11]), (20, [9, 2, 11], [50, 1, 1, 1010, 1001, 4, 11, 0, 6, 4, 2, 1, 0, 0, 1, 2, 1, 10, 1, 2, 1, 2, 9, 5, 3, 1, 1, 1, 0, 0, 256]), (20, [2, 9, 11], [50, 1, 0, 10, 4, 7, 0, 3, 2, 0, 10, 1, 1, 1, 2, 1, 2, 0, -1]), (20, [2, 6], [50, 3, 1, 157, 11, 10, 1, 2, 7, 0, 3, 2, 0, 157, 1, 1, 2, 7, 0, 2, 1, 1, 2, 0, 11, 3, 11, 0, 6, 4, 2, 1, 1, 0, 1, 2, 0, 11, 2, 7, 1, 3, 2, 0, 11, 1, 1, 2, 11, 0, 6, 4, 2, 1, 1, 0, 1, 2, 0, 10, 2, 13, 0, 2, 0, 48, 9, 5, 3, 0, 1, 1, 1, 0, 256, 0, 9, 9, 5, 3, 0, 1, 1, 1, 0, 256, 0, 57]), (20, [10, 6], [30, -4001, -1, 0, 0, -2, 0, 0]), (24, [0, 2], [])], [], [(0, 0, 4001, [])], [(20, [2, 6, 15], [50, 2, 0, 157, 11, 2, 7, 0, 3, 2, 0, 157, 1, 1, 2, 7, 0, 2, 1, 1, 2, 0, 11, 3, 6, 1, 2, 1, 2, 0, 0, 3, 6, 1, 2, 1, 2, 0, 4, 0, 6, 4, 2, 1, 1, 0, 1, 2, 0, 11]), (20, [16, 6], [30, -4001, -1, 0, 0, -2, 0, 0]), (24, [0, 2], [])], [(16, 10, 0, 0)], [(13, 9, -1999, 0), (6, 9, -4294967296, 0)])
theorem oo_Mo_styleTokens_167 {kA : Nat → ClassId} : or_ok kA GG o_Mo_styleTokens_167 := by
  intro A ta ws vs hD hth hl hk hds hf
  have hl : vs.length = 16 := hl
  have hk : ∀ q ∈ ([(0, (2, 0, 0, [150])), (2, (2, 0, 0, [150])), (6, (0, 0, 1999, [])), (9, (0, 5, 1999, [])), (10, (0, 0, 4001, [])), (11, (0, 0, 47, [])), (13, (0, 5, 1999, [])), (14, (0, 4, 4, [])), (15, (0, 4, 4, []))] : List (Nat × tv_T)), tv_ok ta q.2 (n_v vs q.1) := hk
  obtain ⟨t0, hk⟩ := List.forall_mem_cons.mp hk
  have t0 : tv_ok ta (2, 0, 0, [150]) (n_v vs 0) := t0
  have r0 : ta (v_ad (n_v vs 0)) = some 150 := tv_rg t0
  obtain ⟨t2, hk⟩ := List.forall_mem_cons.mp hk
  have t2 : tv_ok ta (2, 0, 0, [150]) (n_v vs 2) := t2
  have r2 : ta (v_ad (n_v vs 2)) = some 150 := tv_rg t2
  obtain ⟨t6, hk⟩ := List.forall_mem_cons.mp hk
  have t6 : tv_ok ta (0, 0, 1999, []) (n_v vs 6) := t6
  have k6 : 0 ≤ v_iv (n_v vs 6) ∧ v_iv (n_v vs 6) ≤ 1999 := tv_rng t6
  obtain ⟨t9, hk⟩ := List.forall_mem_cons.mp hk
  have t9 : tv_ok ta (0, 5, 1999, []) (n_v vs 9) := t9
  have k9 : 5 ≤ v_iv (n_v vs 9) ∧ v_iv (n_v vs 9) ≤ 1999 := tv_rng t9
  obtain ⟨t10, hk⟩ := List.forall_mem_cons.mp hk
  have t10 : tv_ok ta (0, 0, 4001, []) (n_v vs 10) := t10
  have k10 : 0 ≤ v_iv (n_v vs 10) ∧ v_iv (n_v vs 10) ≤ 4001 := tv_rng t10
  obtain ⟨t11, hk⟩ := List.forall_mem_cons.mp hk
  have t11 : tv_ok ta (0, 0, 47, []) (n_v vs 11) := t11
  have k11 : 0 ≤ v_iv (n_v vs 11) ∧ v_iv (n_v vs 11) ≤ 47 := tv_rng t11
  obtain ⟨t13, hk⟩ := List.forall_mem_cons.mp hk
  have t13 : tv_ok ta (0, 5, 1999, []) (n_v vs 13) := t13
  have k13 : 5 ≤ v_iv (n_v vs 13) ∧ v_iv (n_v vs 13) ≤ 1999 := tv_rng t13
  obtain ⟨t14, hk⟩ := List.forall_mem_cons.mp hk
  have t14 : tv_ok ta (0, 4, 4, []) (n_v vs 14) := t14
  have k14 : 4 ≤ v_iv (n_v vs 14) ∧ v_iv (n_v vs 14) ≤ 4 := tv_rng t14
  obtain ⟨t15, hk⟩ := List.forall_mem_cons.mp hk
  have t15 : tv_ok ta (0, 4, 4, []) (n_v vs 15) := t15
  have k15 : 4 ≤ v_iv (n_v vs 15) ∧ v_iv (n_v vs 15) ≤ 4 := tv_rng t15
  have hds : ∀ q ∈ ([(13, 9, -1999, 0), (6, 9, -4294967296, 0)] : List of_T), n_iv vs q.2.1 + q.2.2.1 ≤ n_iv vs q.1 ∧ n_iv vs q.1 ≤ n_iv vs q.2.1 + q.2.2.2 := hds
  obtain ⟨d0, hds⟩ := List.forall_mem_cons.mp hds
  have d0 : v_iv (n_v vs 9) + (-1999) ≤ v_iv (n_v vs 13) ∧ v_iv (n_v vs 13) ≤ v_iv (n_v vs 9) + 0 := d0
  obtain ⟨d1, hds⟩ := List.forall_mem_cons.mp hds
  have d1 : v_iv (n_v vs 9) + (-4294967296) ≤ v_iv (n_v vs 6) ∧ v_iv (n_v vs 6) ≤ v_iv (n_v vs 9) + 0 := d1
  have hf : fc_ok [(7, [13, 14], [4]), (2, [13, 9, 6], []), (9, [9, 2], [11]), (20, [9, 2, 11], [50, 1, 1, 1010, 1001, 4, 11, 0, 6, 4, 2, 1, 0, 0, 1, 2, 1, 10, 1, 2, 1, 2, 9, 5, 3, 1, 1, 1, 0, 0, 256]), (20, [2, 9, 11], [50, 1, 0, 10, 4, 7, 0, 3, 2, 0, 10, 1, 1, 1, 2, 1, 2, 0, -1]), (20, [2, 6], [50, 3, 1, 157, 11, 10, 1, 2, 7, 0, 3, 2, 0, 157, 1, 1, 2, 7, 0, 2, 1, 1, 2, 0, 11, 3, 11, 0, 6, 4, 2, 1, 1, 0, 1, 2, 0, 11, 2, 7, 1, 3, 2, 0, 11, 1, 1, 2, 11, 0, 6, 4, 2, 1, 1, 0, 1, 2, 0, 10, 2, 13, 0, 2, 0, 48, 9, 5, 3, 0, 1, 1, 1, 0, 256, 0, 9, 9, 5, 3, 0, 1, 1, 1, 0, 256, 0, 57]), (20, [10, 6], [30, -4001, -1, 0, 0, -2, 0, 0]), (24, [0, 2], [])] ta ws vs := hf
  obtain ⟨f0, hf⟩ := fc_un (by decide) hf
  have f0 : v_iv (n_v vs 14) < v_iv (n_v vs 13) := f0
  obtain ⟨f1, hf⟩ := fc_un (by decide) hf
  have f1 : v_iv (n_v vs 13) = v_iv (n_v vs 9) - v_iv (n_v vs 6) := f1
  obtain ⟨f2, hf⟩ := fc_un (by decide) hf
  have f2 : n_v vs 9 = w_fd ws (v_ad (n_v vs 2)) 11 := f2
  obtain ⟨f3, hf⟩ := fc_un (by decide) hf
  have f3 : ((v_iv (n_v vs 9) + 1) ≤ w_fi ws (n_v vs 2) 10) → (v_iv (n_v vs 11) = (w_ei ws (w_ar ws (n_v vs 2) 1) (v_iv (n_v vs 9)) % 256)) := f3
  obtain ⟨f4, hf⟩ := fc_un (by decide) hf
  have f4 : (w_fi ws (n_v vs 2) 10 ≤ v_iv (n_v vs 9)) → (v_iv (n_v vs 11) = (-1)) := f4
  obtain ⟨f5, hf⟩ := fc_un (by decide) hf
  have f5 : (w_fi ws (n_v vs 2) 157 ≤ v_iv (n_v vs 6)) ∧ ((v_iv (n_v vs 6) ≤ w_fi ws (n_v vs 2) 11) ∧ (((v_iv (n_v vs 6) + 1) ≤ w_fi ws (n_v vs 2) 11) ∨ ((w_fi ws (n_v vs 2) 11 = v_iv (n_v vs 6)) ∧ (((v_iv (n_v vs 6) + 1) ≤ w_fi ws (n_v vs 2) 10) ∧ ((48 ≤ (w_ei ws (w_ar ws (n_v vs 2) 1) (v_iv (n_v vs 6)) % 256)) ∧ ((w_ei ws (w_ar ws (n_v vs 2) 1) (v_iv (n_v vs 6)) % 256) ≤ 57)))))) := f5
  obtain ⟨f6, hf⟩ := fc_un (by decide) hf
  have f6 : (-1) * v_iv (n_v vs 10) + ((-2) * v_iv (n_v vs 6) + 0) ≤ (-4001) := f6
  obtain ⟨f7, hf⟩ := fc_un (by decide) hf
  have f7 : n_v vs 0 = n_v vs 2 := f7
  have q2 : n_v vs 2 = n_v vs 0 := f7.symm
  rw [q2] at f2
  rw [q2] at f3
  rw [q2] at f4
  rw [q2] at f5
  have cr_0_1 : ta (w_ar ws (n_v vs 0) 1) = some 151 := tv_rg (th_fd hD hth r0 (g := GG_150) rfl (k := 1) (t := (2, 0, 0, [151])) rfl rfl)
  have g2 : v_iv (n_v vs 9) = w_fi ws (n_v vs 0) 11 := congrArg v_iv f2
  have hK_0_1 : ∀ j : Int, 0 ≤ j → j < 2000 → (-128) ≤ w_ei ws (w_ar ws (n_v vs 0) 1) j ∧ w_ei ws (w_ar ws (n_v vs 0) 1) j ≤ 127 := fun j h0 h1 => th_el hD hth cr_0_1 (kd := 1) (n := 2000) (m := 2000) (lo := (-128)) (hi := 127) (rs := []) (L := []) rfl (by decide) (j := j.toNat) (by omega)
  have kz_0_10 : 0 ≤ w_fi ws (n_v vs 0) 10 ∧ w_fi ws (n_v vs 0) 10 ≤ 2000 := tv_rng (th_fd hD hth r0 (g := GG_150) rfl (k := 10) (t := (0, 0, 2000, [])) rfl rfl)
  have kz_0_11 : 0 ≤ w_fi ws (n_v vs 0) 11 ∧ w_fi ws (n_v vs 0) 11 ≤ 2000 := tv_rng (th_fd hD hth r0 (g := GG_150) rfl (k := 11) (t := (0, 0, 2000, [])) rfl rfl)
  have kz_0_157 : 0 ≤ w_fi ws (n_v vs 0) 157 ∧ w_fi ws (n_v vs 0) 157 ≤ 2010 := tv_rng (th_fd hD hth r0 (g := GG_150) rfl (k := 157) (t := (0, 0, 2010, [])) rfl rfl)
  obtain ⟨x, ex, hx⟩ := iv_ex (ta := ta) (lo := 0) (hi := 4001) (z := 0 + (1 * v_iv (n_v vs 10) + 0)) (by omega) (by omega) (by decide) (by decide)
  have ex2 : v_iv (Value.int x) = 0 + (1 * v_iv (n_v vs 10) + 0) := ex
  have ex3 : 0 ≤ v_iv (Value.int x) ∧ v_iv (Value.int x) ≤ 4001 := tv_rng hx
  have e_0 : n_v (vs ++ [Value.int x]) 0 = n_v vs 0 := n_v_old (by rw [hl]; decide)
  have e_2 : n_v (vs ++ [Value.int x]) 2 = n_v vs 2 := n_v_old (by rw [hl]; decide)
  have e_6 : n_v (vs ++ [Value.int x]) 6 = n_v vs 6 := n_v_old (by rw [hl]; decide)
  have e_15 : n_v (vs ++ [Value.int x]) 15 = n_v vs 15 := n_v_old (by rw [hl]; decide)
  have e_16 : n_v (vs ++ [Value.int x]) 16 = Value.int x := n_v_new hl
  have nf0 : fc_1 (20, [2, 6, 15], [50, 2, 0, 157, 11, 2, 7, 0, 3, 2, 0, 157, 1, 1, 2, 7, 0, 2, 1, 1, 2, 0, 11, 3, 6, 1, 2, 1, 2, 0, 0, 3, 6, 1, 2, 1, 2, 0, 4, 0, 6, 4, 2, 1, 1, 0, 1, 2, 0, 11]) ws (vs ++ [Value.int x]) := by
    refine ⟨fun n hn => ?_, ?_⟩
    · have hn : n ∈ [2, 6, 15] := hn
      rw [List.length_append, hl]
      simp only [List.mem_cons, List.not_mem_nil, or_false] at hn
      show n < 16 + 1; omega
    · show (w_fi ws (n_v (vs ++ [Value.int x]) 2) 157 ≤ v_iv (n_v (vs ++ [Value.int x]) 6)) ∧ ((v_iv (n_v (vs ++ [Value.int x]) 6) ≤ w_fi ws (n_v (vs ++ [Value.int x]) 2) 11) ∧ ((v_iv (n_v (vs ++ [Value.int x]) 15) = 0) ∨ ((v_iv (n_v (vs ++ [Value.int x]) 15) = 4) ∨ ((v_iv (n_v (vs ++ [Value.int x]) 6) + 1) ≤ w_fi ws (n_v (vs ++ [Value.int x]) 2) 11))))
      rw [e_2]
      rw [e_6]
      rw [e_15]
      rw [q2]
      first | omega | grind
  have nf1 : fc_1 (20, [16, 6], [30, -4001, -1, 0, 0, -2, 0, 0]) ws (vs ++ [Value.int x]) := by
    refine ⟨fun n hn => ?_, ?_⟩
    · have hn : n ∈ [16, 6] := hn
      rw [List.length_append, hl]
      simp only [List.mem_cons, List.not_mem_nil, or_false] at hn
      show n < 16 + 1; omega
    · show (-1) * v_iv (n_v (vs ++ [Value.int x]) 16) + ((-2) * v_iv (n_v (vs ++ [Value.int x]) 6) + 0) ≤ (-4001)
      rw [e_6]
      rw [e_16]
      omega
  have nf2 : fc_1 (24, [0, 2], []) ws (vs ++ [Value.int x]) := by
    refine ⟨fun n hn => ?_, ?_⟩
    · have hn : n ∈ [0, 2] := hn
      rw [List.length_append, hl]
      simp only [List.mem_cons, List.not_mem_nil, or_false] at hn
      show n < 16 + 1; omega
    · show n_v (vs ++ [Value.int x]) 0 = n_v (vs ++ [Value.int x]) 2
      first | rfl | simp only [e_0, e_2, q2]
  obtain ⟨x0, e0, _, _⟩ := tv_int t10 rfl
  have e1 : v_iv (n_v vs 10) = x0.toInt := by rw [e0]; rfl
  have ho : sy_ofs (vs ++ [Value.int x]) (16, 10, 0, 0) := by
    refine ⟨x, x0, by rw [List.getElem?_append_right (by rw [hl]; decide), hl]; rfl, ?_, ?_, ?_⟩
    · rw [List.getElem?_append_left (by rw [hl]; decide)]; exact n_v_some (by rw [hl]; decide) e0
    · show x0.toInt + 0 ≤ x.toInt; omega
    · show x.toInt ≤ x0.toInt + 0; omega
  exact ⟨fun q hq => (by cases hq), [Value.int x], ag_one hx, List.forall_mem_cons.mpr ⟨⟨by decide, nf0⟩, List.forall_mem_cons.mpr ⟨⟨by decide, nf1⟩, List.forall_mem_cons.mpr ⟨⟨by decide, nf2⟩, (fun _ h => (by cases h))⟩⟩⟩, List.forall_mem_cons.mpr ⟨ho, (fun _ h => (by cases h))⟩⟩
def o_Mo_styleTokens_168 : or_T := (363, 16, [(0, (2, 0, 0, [150])), (2, (2, 0, 0, [150])), (6, (0, 0, 1999, [])), (9, (0, 0, 1999, [])), (10, (0, 0, 4001, [])), (11, (0, 0, 47, [])), (13, (0, 0, 4, [])), (14, (0, 4, 4, [])), (15, (0, 2, 2, []))], [(7, [13, 14], [5]), (2, [13, 9, 6], []), (9, [9, 2], [11]), (20, [9, 2, 11], [50, 1, 1, 1010, 1001, 4, 11, 0, 6, 4, 2, 1, 0, 0, 1, 2, 1, 10, 1, 2, 1, 2, 9, 5, 3, 1, 1, 1, 0, 0, 256]), (20, [2, 9, 11], [50, 1, 0, 10, 4, 7, 0, 3, 2, 0, 10, 1, 1, 1, 2, 1, 2, 0, -1]), (20, [2, 6], [50, 3, 1, 157, 11, 10, 1, 2, 7, 0, 3, 2, 0, 157, 1, 1, 2, 7, 0, 2, 1, 1, 2, 0, 11, 3, 11, 0, 6, 4, 2, 1, 1, 0, 1, 2, 0, 11, 2, 7, 1, 3, 2, 0, 11, 1, 1, 2, 11, 0, 6, 4, 2, 1, 1, 0, 1, 2, 0, 10, 2, 13, 0, 2, 0, 48, 9, 5, 3, 0, 1, 1, 1, 0, 256, 0, 9, 9, 5, 3, 0, 1, 1, 1, 0, 256, 0, 57]), (20, [10, 6], [30, -4001, -1, 0, 0, -2, 0, 0]), (24, [0, 2], [])], [], [(0, 0, 4001, [])], [(20, [2, 6, 15], [50, 2, 0, 157, 11, 2, 7, 0, 3, 2, 0, 157, 1, 1, 2, 7, 0, 2, 1, 1, 2, 0, 11, 3, 6, 1, 2, 1, 2, 0, 0, 3, 6, 1, 2, 1, 2, 0, 4, 0, 6, 4, 2, 1, 1, 0, 1, 2, 0, 11]), (20, [16, 6], [30, -4001, -1, 0, 0, -2, 0, 0]), (24, [0, 2], [])], [(16, 10, 0, 0)], [(13, 9, -1999, 0), (6, 9, -4294967296, 0)])
theorem oo_Mo_styleTokens_168 {kA : Nat → ClassId} : or_ok kA GG o_Mo_styleTokens_168 := by
  intro A ta ws vs hD hth hl hk hds hf
  have hl : vs.length = 16 := hl
  have hk : ∀ q ∈ ([(0, (2, 0, 0, [150])), (2, (2, 0, 0, [150])), (6, (0, 0, 1999, [])), (9, (0, 0, 1999, [])), (10, (0, 0, 4001, [])), (11, (0, 0, 47, [])), (13, (0, 0, 4, [])), (14, (0, 4, 4, [])), (15, (0, 2, 2, []))] : List (Nat × tv_T)), tv_ok ta q.2 (n_v vs q.1) := hk
  obtain ⟨t0, hk⟩ := List.forall_mem_cons.mp hk
  have t0 : tv_ok ta (2, 0, 0, [150]) (n_v vs 0) := t0
  have r0 : ta (v_ad (n_v vs 0)) = some 150 := tv_rg t0
  obtain ⟨t2, hk⟩ := List.forall_mem_cons.mp hk
  have t2 : tv_ok ta (2, 0, 0, [150]) (n_v vs 2) := t2
  have r2 : ta (v_ad (n_v vs 2)) = some 150 := tv_rg t2
  obtain ⟨t6, hk⟩ := List.forall_mem_cons.mp hk
  have t6 : tv_ok ta (0, 0, 1999, []) (n_v vs 6) := t6
  have k6 : 0 ≤ v_iv (n_v vs 6) ∧ v_iv (n_v vs 6) ≤ 1999 := tv_rng t6
  obtain ⟨t9, hk⟩ := List.forall_mem_cons.mp hk
  have t9 : tv_ok ta (0, 0, 1999, []) (n_v vs 9) := t9
  have k9 : 0 ≤ v_iv (n_v vs 9) ∧ v_iv (n_v vs 9) ≤ 1999 := tv_rng t9
  obtain ⟨t10, hk⟩ := List.forall_mem_cons.mp hk
  have t10 : tv_ok ta (0, 0, 4001, []) (n_v vs 10) := t10
  have k10 : 0 ≤ v_iv (n_v vs 10) ∧ v_iv (n_v vs 10) ≤ 4001 := tv_rng t10
  obtain ⟨t11, hk⟩ := List.forall_mem_cons.mp hk
  have t11 : tv_ok ta (0, 0, 47, []) (n_v vs 11) := t11
  have k11 : 0 ≤ v_iv (n_v vs 11) ∧ v_iv (n_v vs 11) ≤ 47 := tv_rng t11
  obtain ⟨t13, hk⟩ := List.forall_mem_cons.mp hk
  have t13 : tv_ok ta (0, 0, 4, []) (n_v vs 13) := t13
  have k13 : 0 ≤ v_iv (n_v vs 13) ∧ v_iv (n_v vs 13) ≤ 4 := tv_rng t13
  obtain ⟨t14, hk⟩ := List.forall_mem_cons.mp hk
  have t14 : tv_ok ta (0, 4, 4, []) (n_v vs 14) := t14
  have k14 : 4 ≤ v_iv (n_v vs 14) ∧ v_iv (n_v vs 14) ≤ 4 := tv_rng t14
  obtain ⟨t15, hk⟩ := List.forall_mem_cons.mp hk
  have t15 : tv_ok ta (0, 2, 2, []) (n_v vs 15) := t15
  have k15 : 2 ≤ v_iv (n_v vs 15) ∧ v_iv (n_v vs 15) ≤ 2 := tv_rng t15
  have hds : ∀ q ∈ ([(13, 9, -1999, 0), (6, 9, -4294967296, 0)] : List of_T), n_iv vs q.2.1 + q.2.2.1 ≤ n_iv vs q.1 ∧ n_iv vs q.1 ≤ n_iv vs q.2.1 + q.2.2.2 := hds
  obtain ⟨d0, hds⟩ := List.forall_mem_cons.mp hds
  have d0 : v_iv (n_v vs 9) + (-1999) ≤ v_iv (n_v vs 13) ∧ v_iv (n_v vs 13) ≤ v_iv (n_v vs 9) + 0 := d0
  obtain ⟨d1, hds⟩ := List.forall_mem_cons.mp hds
  have d1 : v_iv (n_v vs 9) + (-4294967296) ≤ v_iv (n_v vs 6) ∧ v_iv (n_v vs 6) ≤ v_iv (n_v vs 9) + 0 := d1
  have hf : fc_ok [(7, [13, 14], [5]), (2, [13, 9, 6], []), (9, [9, 2], [11]), (20, [9, 2, 11], [50, 1, 1, 1010, 1001, 4, 11, 0, 6, 4, 2, 1, 0, 0, 1, 2, 1, 10, 1, 2, 1, 2, 9, 5, 3, 1, 1, 1, 0, 0, 256]), (20, [2, 9, 11], [50, 1, 0, 10, 4, 7, 0, 3, 2, 0, 10, 1, 1, 1, 2, 1, 2, 0, -1]), (20, [2, 6], [50, 3, 1, 157, 11, 10, 1, 2, 7, 0, 3, 2, 0, 157, 1, 1, 2, 7, 0, 2, 1, 1, 2, 0, 11, 3, 11, 0, 6, 4, 2, 1, 1, 0, 1, 2, 0, 11, 2, 7, 1, 3, 2, 0, 11, 1, 1, 2, 11, 0, 6, 4, 2, 1, 1, 0, 1, 2, 0, 10, 2, 13, 0, 2, 0, 48, 9, 5, 3, 0, 1, 1, 1, 0, 256, 0, 9, 9, 5, 3, 0, 1, 1, 1, 0, 256, 0, 57]), (20, [10, 6], [30, -4001, -1, 0, 0, -2, 0, 0]), (24, [0, 2], [])] ta ws vs := hf
  obtain ⟨f0, hf⟩ := fc_un (by decide) hf
  have f0 : v_iv (n_v vs 13) ≤ v_iv (n_v vs 14) := f0
  obtain ⟨f1, hf⟩ := fc_un (by decide) hf
  have f1 : v_iv (n_v vs 13) = v_iv (n_v vs 9) - v_iv (n_v vs 6) := f1
  obtain ⟨f2, hf⟩ := fc_un (by decide) hf
  have f2 : n_v vs 9 = w_fd ws (v_ad (n_v vs 2)) 11 := f2
  obtain ⟨f3, hf⟩ := fc_un (by decide) hf
  have f3 : ((v_iv (n_v vs 9) + 1) ≤ w_fi ws (n_v vs 2) 10) → (v_iv (n_v vs 11) = (w_ei ws (w_ar ws (n_v vs 2) 1) (v_iv (n_v vs 9)) % 256)) := f3
  obtain ⟨f4, hf⟩ := fc_un (by decide) hf
  have f4 : (w_fi ws (n_v vs 2) 10 ≤ v_iv (n_v vs 9)) → (v_iv (n_v vs 11) = (-1)) := f4
  obtain ⟨f5, hf⟩ := fc_un (by decide) hf
  have f5 : (w_fi ws (n_v vs 2) 157 ≤ v_iv (n_v vs 6)) ∧ ((v_iv (n_v vs 6) ≤ w_fi ws (n_v vs 2) 11) ∧ (((v_iv (n_v vs 6) + 1) ≤ w_fi ws (n_v vs 2) 11) ∨ ((w_fi ws (n_v vs 2) 11 = v_iv (n_v vs 6)) ∧ (((v_iv (n_v vs 6) + 1) ≤ w_fi ws (n_v vs 2) 10) ∧ ((48 ≤ (w_ei ws (w_ar ws (n_v vs 2) 1) (v_iv (n_v vs 6)) % 256)) ∧ ((w_ei ws (w_ar ws (n_v vs 2) 1) (v_iv (n_v vs 6)) % 256) ≤ 57)))))) := f5
  obtain ⟨f6, hf⟩ := fc_un (by decide) hf
  have f6 : (-1) * v_iv (n_v vs 10) + ((-2) * v_iv (n_v vs 6) + 0) ≤ (-4001) := f6
  obtain ⟨f7, hf⟩ := fc_un (by decide) hf
  have f7 : n_v vs 0 = n_v vs 2 := f7
  have q2 : n_v vs 2 = n_v vs 0 := f7.symm
  rw [q2] at f2
  rw [q2] at f3
  rw [q2] at f4
  rw [q2] at f5
  have cr_0_1 : ta (w_ar ws (n_v vs 0) 1) = some 151 := tv_rg (th_fd hD hth r0 (g := GG_150) rfl (k := 1) (t := (2, 0, 0, [151])) rfl rfl)
  have g2 : v_iv (n_v vs 9) = w_fi ws (n_v vs 0) 11 := congrArg v_iv f2
  have hK_0_1 : ∀ j : Int, 0 ≤ j → j < 2000 → (-128) ≤ w_ei ws (w_ar ws (n_v vs 0) 1) j ∧ w_ei ws (w_ar ws (n_v vs 0) 1) j ≤ 127 := fun j h0 h1 => th_el hD hth cr_0_1 (kd := 1) (n := 2000) (m := 2000) (lo := (-128)) (hi := 127) (rs := []) (L := []) rfl (by decide) (j := j.toNat) (by omega)
  have kz_0_10 : 0 ≤ w_fi ws (n_v vs 0) 10 ∧ w_fi ws (n_v vs 0) 10 ≤ 2000 := tv_rng (th_fd hD hth r0 (g := GG_150) rfl (k := 10) (t := (0, 0, 2000, [])) rfl rfl)
  have kz_0_11 : 0 ≤ w_fi ws (n_v vs 0) 11 ∧ w_fi ws (n_v vs 0) 11 ≤ 2000 := tv_rng (th_fd hD hth r0 (g := GG_150) rfl (k := 11) (t := (0, 0, 2000, [])) rfl rfl)
  have kz_0_157 : 0 ≤ w_fi ws (n_v vs 0) 157 ∧ w_fi ws (n_v vs 0) 157 ≤ 2010 := tv_rng (th_fd hD hth r0 (g := GG_150) rfl (k := 157) (t := (0, 0, 2010, [])) rfl rfl)
  obtain ⟨x, ex, hx⟩ := iv_ex (ta := ta) (lo := 0) (hi := 4001) (z := 0 + (1 * v_iv (n_v vs 10) + 0)) (by omega) (by omega) (by decide) (by decide)
  have ex2 : v_iv (Value.int x) = 0 + (1 * v_iv (n_v vs 10) + 0) := ex
  have ex3 : 0 ≤ v_iv (Value.int x) ∧ v_iv (Value.int x) ≤ 4001 := tv_rng hx
  have e_0 : n_v (vs ++ [Value.int x]) 0 = n_v vs 0 := n_v_old (by rw [hl]; decide)
  have e_2 : n_v (vs ++ [Value.int x]) 2 = n_v vs 2 := n_v_old (by rw [hl]; decide)
  have e_6 : n_v (vs ++ [Value.int x]) 6 = n_v vs 6 := n_v_old (by rw [hl]; decide)
  have e_15 : n_v (vs ++ [Value.int x]) 15 = n_v vs 15 := n_v_old (by rw [hl]; decide)
  have e_16 : n_v (vs ++ [Value.int x]) 16 = Value.int x := n_v_new hl
  have nf0 : fc_1 (20, [2, 6, 15], [50, 2, 0, 157, 11, 2, 7, 0, 3, 2, 0, 157, 1, 1, 2, 7, 0, 2, 1, 1, 2, 0, 11, 3, 6, 1, 2, 1, 2, 0, 0, 3, 6, 1, 2, 1, 2, 0, 4, 0, 6, 4, 2, 1, 1, 0, 1, 2, 0, 11]) ws (vs ++ [Value.int x]) := by
    refine ⟨fun n hn => ?_, ?_⟩
    · have hn : n ∈ [2, 6, 15] := hn
      rw [List.length_append, hl]
      simp only [List.mem_cons, List.not_mem_nil, or_false] at hn
      show n < 16 + 1; omega
    · show (w_fi ws (n_v (vs ++ [Value.int x]) 2) 157 ≤ v_iv (n_v (vs ++ [Value.int x]) 6)) ∧ ((v_iv (n_v (vs ++ [Value.int x]) 6) ≤ w_fi ws (n_v (vs ++ [Value.int x]) 2) 11) ∧ ((v_iv (n_v (vs ++ [Value.int x]) 15) = 0) ∨ ((v_iv (n_v (vs ++ [Value.int x]) 15) = 4) ∨ ((v_iv (n_v (vs ++ [Value.int x]) 6) + 1) ≤ w_fi ws (n_v (vs ++ [Value.int x]) 2) 11))))
      rw [e_2]
      rw [e_6]
      rw [e_15]
      rw [q2]
      first | omega | grind
  have nf1 : fc_1 (20, [16, 6], [30, -4001, -1, 0, 0, -2, 0, 0]) ws (vs ++ [Value.int x]) := by
    refine ⟨fun n hn => ?_, ?_⟩
    · have hn : n ∈ [16, 6] := hn
      rw [List.length_append, hl]
      simp only [List.mem_cons, List.not_mem_nil, or_false] at hn
      show n < 16 + 1; omega
    · show (-1) * v_iv (n_v (vs ++ [Value.int x]) 16) + ((-2) * v_iv (n_v (vs ++ [Value.int x]) 6) + 0) ≤ (-4001)
      rw [e_6]
      rw [e_16]
      omega
  have nf2 : fc_1 (24, [0, 2], []) ws (vs ++ [Value.int x]) := by
    refine ⟨fun n hn => ?_, ?_⟩
    · have hn : n ∈ [0, 2] := hn
      rw [List.length_append, hl]
      simp only [List.mem_cons, List.not_mem_nil, or_false] at hn
      show n < 16 + 1; omega
    · show n_v (vs ++ [Value.int x]) 0 = n_v (vs ++ [Value.int x]) 2
      first | rfl | simp only [e_0, e_2, q2]
  obtain ⟨x0, e0, _, _⟩ := tv_int t10 rfl
  have e1 : v_iv (n_v vs 10) = x0.toInt := by rw [e0]; rfl
  have ho : sy_ofs (vs ++ [Value.int x]) (16, 10, 0, 0) := by
    refine ⟨x, x0, by rw [List.getElem?_append_right (by rw [hl]; decide), hl]; rfl, ?_, ?_, ?_⟩
    · rw [List.getElem?_append_left (by rw [hl]; decide)]; exact n_v_some (by rw [hl]; decide) e0
    · show x0.toInt + 0 ≤ x.toInt; omega
    · show x.toInt ≤ x0.toInt + 0; omega
  exact ⟨fun q hq => (by cases hq), [Value.int x], ag_one hx, List.forall_mem_cons.mpr ⟨⟨by decide, nf0⟩, List.forall_mem_cons.mpr ⟨⟨by decide, nf1⟩, List.forall_mem_cons.mpr ⟨⟨by decide, nf2⟩, (fun _ h => (by cases h))⟩⟩⟩, List.forall_mem_cons.mpr ⟨ho, (fun _ h => (by cases h))⟩⟩
def o_Mo_styleTokens_169 : or_T := (363, 16, [(0, (2, 0, 0, [150])), (2, (2, 0, 0, [150])), (6, (0, 0, 1999, [])), (9, (0, 5, 1999, [])), (10, (0, 0, 4001, [])), (11, (0, 58, 255, [])), (13, (0, 5, 1999, [])), (14, (0, 4, 4, [])), (15, (0, 4, 4, []))], [(7, [13, 14], [4]), (2, [13, 9, 6], []), (9, [9, 2], [11]), (20, [9, 2, 11], [50, 1, 1, 1010, 1001, 4, 11, 0, 6, 4, 2, 1, 0, 0, 1, 2, 1, 10, 1, 2, 1, 2, 9, 5, 3, 1, 1, 1, 0, 0, 256]), (20, [2, 9, 11], [50, 1, 0, 10, 4, 7, 0, 3, 2, 0, 10, 1, 1, 1, 2, 1, 2, 0, -1]), (20, [2, 6], [50, 3, 1, 157, 11, 10, 1, 2, 7, 0, 3, 2, 0, 157, 1, 1, 2, 7, 0, 2, 1, 1, 2, 0, 11, 3, 11, 0, 6, 4, 2, 1, 1, 0, 1, 2, 0, 11, 2, 7, 1, 3, 2, 0, 11, 1, 1, 2, 11, 0, 6, 4, 2, 1, 1, 0, 1, 2, 0, 10, 2, 13, 0, 2, 0, 48, 9, 5, 3, 0, 1, 1, 1, 0, 256, 0, 9, 9, 5, 3, 0, 1, 1, 1, 0, 256, 0, 57]), (20, [10, 6], [30, -4001, -1, 0, 0, -2, 0, 0]), (24, [0, 2], [])], [], [(0, 0, 4001, [])], [(20, [2, 6, 15], [50, 2, 0, 157, 11, 2, 7, 0, 3, 2, 0, 157, 1, 1, 2, 7, 0, 2, 1, 1, 2, 0, 11, 3, 6, 1, 2, 1, 2, 0, 0, 3, 6, 1, 2, 1, 2, 0, 4, 0, 6, 4, 2, 1, 1, 0, 1, 2, 0, 11]), (20, [16, 6], [30, -4001, -1, 0, 0, -2, 0, 0]), (24, [0, 2], [])], [(16, 10, 0, 0)], [(13, 9, -1999, 0), (6, 9, -4294967296, 0)])
theorem oo_Mo_styleTokens_169 {kA : Nat → ClassId} : or_ok kA GG o_Mo_styleTokens_169 := by
  intro A ta ws vs hD hth hl hk hds hf
  have hl : vs.length = 16 := hl
  have hk : ∀ q ∈ ([(0, (2, 0, 0, [150])), (2, (2, 0, 0, [150])), (6, (0, 0, 1999, [])), (9, (0, 5, 1999, [])), (10, (0, 0, 4001, [])), (11, (0, 58, 255, [])), (13, (0, 5, 1999, [])), (14, (0, 4, 4, [])), (15, (0, 4, 4, []))] : List (Nat × tv_T)), tv_ok ta q.2 (n_v vs q.1) := hk
  obtain ⟨t0, hk⟩ := List.forall_mem_cons.mp hk
  have t0 : tv_ok ta (2, 0, 0, [150]) (n_v vs 0) := t0
  have r0 : ta (v_ad (n_v vs 0)) = some 150 := tv_rg t0
  obtain ⟨t2, hk⟩ := List.forall_mem_cons.mp hk
  have t2 : tv_ok ta (2, 0, 0, [150]) (n_v vs 2) := t2
  have r2 : ta (v_ad (n_v vs 2)) = some 150 := tv_rg t2
  obtain ⟨t6, hk⟩ := List.forall_mem_cons.mp hk
  have t6 : tv_ok ta (0, 0, 1999, []) (n_v vs 6) := t6
  have k6 : 0 ≤ v_iv (n_v vs 6) ∧ v_iv (n_v vs 6) ≤ 1999 := tv_rng t6
  obtain ⟨t9, hk⟩ := List.forall_mem_cons.mp hk
  have t9 : tv_ok ta (0, 5, 1999, []) (n_v vs 9) := t9
  have k9 : 5 ≤ v_iv (n_v vs 9) ∧ v_iv (n_v vs 9) ≤ 1999 := tv_rng t9
  obtain ⟨t10, hk⟩ := List.forall_mem_cons.mp hk
  have t10 : tv_ok ta (0, 0, 4001, []) (n_v vs 10) := t10
  have k10 : 0 ≤ v_iv (n_v vs 10) ∧ v_iv (n_v vs 10) ≤ 4001 := tv_rng t10
  obtain ⟨t11, hk⟩ := List.forall_mem_cons.mp hk
  have t11 : tv_ok ta (0, 58, 255, []) (n_v vs 11) := t11
  have k11 : 58 ≤ v_iv (n_v vs 11) ∧ v_iv (n_v vs 11) ≤ 255 := tv_rng t11
  obtain ⟨t13, hk⟩ := List.forall_mem_cons.mp hk
  have t13 : tv_ok ta (0, 5, 1999, []) (n_v vs 13) := t13
  have k13 : 5 ≤ v_iv (n_v vs 13) ∧ v_iv (n_v vs 13) ≤ 1999 := tv_rng t13
  obtain ⟨t14, hk⟩ := List.forall_mem_cons.mp hk
  have t14 : tv_ok ta (0, 4, 4, []) (n_v vs 14) := t14
  have k14 : 4 ≤ v_iv (n_v vs 14) ∧ v_iv (n_v vs 14) ≤ 4 := tv_rng t14
  obtain ⟨t15, hk⟩ := List.forall_mem_cons.mp hk
  have t15 : tv_ok ta (0, 4, 4, []) (n_v vs 15) := t15
  have k15 : 4 ≤ v_iv (n_v vs 15) ∧ v_iv (n_v vs 15) ≤ 4 := tv_rng t15
  have hds : ∀ q ∈ ([(13, 9, -1999, 0), (6, 9, -4294967296, 0)] : List of_T), n_iv vs q.2.1 + q.2.2.1 ≤ n_iv vs q.1 ∧ n_iv vs q.1 ≤ n_iv vs q.2.1 + q.2.2.2 := hds
  obtain ⟨d0, hds⟩ := List.forall_mem_cons.mp hds
  have d0 : v_iv (n_v vs 9) + (-1999) ≤ v_iv (n_v vs 13) ∧ v_iv (n_v vs 13) ≤ v_iv (n_v vs 9) + 0 := d0
  obtain ⟨d1, hds⟩ := List.forall_mem_cons.mp hds
  have d1 : v_iv (n_v vs 9) + (-4294967296) ≤ v_iv (n_v vs 6) ∧ v_iv (n_v vs 6) ≤ v_iv (n_v vs 9) + 0 := d1
  have hf : fc_ok [(7, [13, 14], [4]), (2, [13, 9, 6], []), (9, [9, 2], [11]), (20, [9, 2, 11], [50, 1, 1, 1010, 1001, 4, 11, 0, 6, 4, 2, 1, 0, 0, 1, 2, 1, 10, 1, 2, 1, 2, 9, 5, 3, 1, 1, 1, 0, 0, 256]), (20, [2, 9, 11], [50, 1, 0, 10, 4, 7, 0, 3, 2, 0, 10, 1, 1, 1, 2, 1, 2, 0, -1]), (20, [2, 6], [50, 3, 1, 157, 11, 10, 1, 2, 7, 0, 3, 2, 0, 157, 1, 1, 2, 7, 0, 2, 1, 1, 2, 0, 11, 3, 11, 0, 6, 4, 2, 1, 1, 0, 1, 2, 0, 11, 2, 7, 1, 3, 2, 0, 11, 1, 1, 2, 11, 0, 6, 4, 2, 1, 1, 0, 1, 2, 0, 10, 2, 13, 0, 2, 0, 48, 9, 5, 3, 0, 1, 1, 1, 0, 256, 0, 9, 9, 5, 3, 0, 1, 1, 1, 0, 256, 0, 57]), (20, [10, 6], [30, -4001, -1, 0, 0, -2, 0, 0]), (24, [0, 2], [])] ta ws vs := hf
  obtain ⟨f0, hf⟩ := fc_un (by decide) hf
  have f0 : v_iv (n_v vs 14) < v_iv (n_v vs 13) := f0
  obtain ⟨f1, hf⟩ := fc_un (by decide) hf
  have f1 : v_iv (n_v vs 13) = v_iv (n_v vs 9) - v_iv (n_v vs 6) := f1
  obtain ⟨f2, hf⟩ := fc_un (by decide) hf
  have f2 : n_v vs 9 = w_fd ws (v_ad (n_v vs 2)) 11 := f2
  obtain ⟨f3, hf⟩ := fc_un (by decide) hf
  have f3 : ((v_iv (n_v vs 9) + 1) ≤ w_fi ws (n_v vs 2) 10) → (v_iv (n_v vs 11) = (w_ei ws (w_ar ws (n_v vs 2) 1) (v_iv (n_v vs 9)) % 256)) := f3
  obtain ⟨f4, hf⟩ := fc_un (by decide) hf
  have f4 : (w_fi ws (n_v vs 2) 10 ≤ v_iv (n_v vs 9)) → (v_iv (n_v vs 11) = (-1)) := f4
  obtain ⟨f5, hf⟩ := fc_un (by decide) hf
  have f5 : (w_fi ws (n_v vs 2) 157 ≤ v_iv (n_v vs 6)) ∧ ((v_iv (n_v vs 6) ≤ w_fi ws (n_v vs 2) 11) ∧ (((v_iv (n_v vs 6) + 1) ≤ w_fi ws (n_v vs 2) 11) ∨ ((w_fi ws (n_v vs 2) 11 = v_iv (n_v vs 6)) ∧ (((v_iv (n_v vs 6) + 1) ≤ w_fi ws (n_v vs 2) 10) ∧ ((48 ≤ (w_ei ws (w_ar ws (n_v vs 2) 1) (v_iv (n_v vs 6)) % 256)) ∧ ((w_ei ws (w_ar ws (n_v vs 2) 1) (v_iv (n_v vs 6)) % 256) ≤ 57)))))) := f5
  obtain ⟨f6, hf⟩ := fc_un (by decide) hf
  have f6 : (-1) * v_iv (n_v vs 10) + ((-2) * v_iv (n_v vs 6) + 0) ≤ (-4001) := f6
  obtain ⟨f7, hf⟩ := fc_un (by decide) hf
  have f7 : n_v vs 0 = n_v vs 2 := f7
  have q2 : n_v vs 2 = n_v vs 0 := f7.symm
  rw [q2] at f2
  rw [q2] at f3
  rw [q2] at f4
  rw [q2] at f5
  have cr_0_1 : ta (w_ar ws (n_v vs 0) 1) = some 151 := tv_rg (th_fd hD hth r0 (g := GG_150) rfl (k := 1) (t := (2, 0, 0, [151])) rfl rfl)
  have g2 : v_iv (n_v vs 9) = w_fi ws (n_v vs 0) 11 := congrArg v_iv f2
  have hK_0_1 : ∀ j : Int, 0 ≤ j → j < 2000 → (-128) ≤ w_ei ws (w_ar ws (n_v vs 0) 1) j ∧ w_ei ws (w_ar ws (n_v vs 0) 1) j ≤ 127 := fun j h0 h1 => th_el hD hth cr_0_1 (kd := 1) (n := 2000) (m := 2000) (lo := (-128)) (hi := 127) (rs := []) (L := []) rfl (by decide) (j := j.toNat) (by omega)
  have kz_0_10 : 0 ≤ w_fi ws (n_v vs 0) 10 ∧ w_fi ws (n_v vs 0) 10 ≤ 2000 := tv_rng (th_fd hD hth r0 (g := GG_150) rfl (k := 10) (t := (0, 0, 2000, [])) rfl rfl)
  have kz_0_11 : 0 ≤ w_fi ws (n_v vs 0) 11 ∧ w_fi ws (n_v vs 0) 11 ≤ 2000 := tv_rng (th_fd hD hth r0 (g := GG_150) rfl (k := 11) (t := (0, 0, 2000, [])) rfl rfl)
  have kz_0_157 : 0 ≤ w_fi ws (n_v vs 0) 157 ∧ w_fi ws (n_v vs 0) 157 ≤ 2010 := tv_rng (th_fd hD hth r0 (g := GG_150) rfl (k := 157) (t := (0, 0, 2010, [])) rfl rfl)
  obtain ⟨x, ex, hx⟩ := iv_ex (ta := ta) (lo := 0) (hi := 4001) (z := 0 + (1 * v_iv (n_v vs 10) + 0)) (by omega) (by omega) (by decide) (by decide)
  have ex2 : v_iv (Value.int x) = 0 + (1 * v_iv (n_v vs 10) + 0) := ex
  have ex3 : 0 ≤ v_iv (Value.int x) ∧ v_iv (Value.int x) ≤ 4001 := tv_rng hx
  have e_0 : n_v (vs ++ [Value.int x]) 0 = n_v vs 0 := n_v_old (by rw [hl]; decide)
  have e_2 : n_v (vs ++ [Value.int x]) 2 = n_v vs 2 := n_v_old (by rw [hl]; decide)
  have e_6 : n_v (vs ++ [Value.int x]) 6 = n_v vs 6 := n_v_old (by rw [hl]; decide)
  have e_15 : n_v (vs ++ [Value.int x]) 15 = n_v vs 15 := n_v_old (by rw [hl]; decide)
  have e_16 : n_v (vs ++ [Value.int x]) 16 = Value.int x := n_v_new hl
  have nf0 : fc_1 (20, [2, 6, 15], [50, 2, 0, 157, 11, 2, 7, 0, 3, 2, 0, 157, 1, 1, 2, 7, 0, 2, 1, 1, 2, 0, 11, 3, 6, 1, 2, 1, 2, 0, 0, 3, 6, 1, 2, 1, 2, 0, 4, 0, 6, 4, 2, 1, 1, 0, 1, 2, 0, 11]) ws (vs ++ [Value.int x]) := by
    refine ⟨fun n hn => ?_, ?_⟩
    · have hn : n ∈ [2, 6, 15] := hn
      rw [List.length_append, hl]
      simp only [List.mem_cons, List.not_mem_nil, or_false] at hn
      show n < 16 + 1; omega
    · show (w_fi ws (n_v (vs ++ [Value.int x]) 2) 157 ≤ v_iv (n_v (vs ++ [Value.int x]) 6)) ∧ ((v_iv (n_v (vs ++ [Value.int x]) 6) ≤ w_fi ws (n_v (vs ++ [Value.int x]) 2) 11) ∧ ((v_iv (n_v (vs ++ [Value.int x]) 15) = 0) ∨ ((v_iv (n_v (vs ++ [Value.int x]) 15) = 4) ∨ ((v_iv (n_v (vs ++ [Value.int x]) 6) + 1) ≤ w_fi ws (n_v (vs ++ [Value.int x]) 2) 11))))
      rw [e_2]
      rw [e_6]
      rw [e_15]
      rw [q2]
      first | omega | grind
  have nf1 : fc_1 (20, [16, 6], [30, -4001, -1, 0, 0, -2, 0, 0]) ws (vs ++ [Value.int x]) := by
    refine ⟨fun n hn => ?_, ?_⟩
    · have hn : n ∈ [16, 6] := hn
      rw [List.length_append, hl]
      simp only [List.mem_cons, List.not_mem_nil, or_false] at hn
      show n < 16 + 1; omega
    · show (-1) * v_iv (n_v (vs ++ [Value.int x]) 16) + ((-2) * v_iv (n_v (vs ++ [Value.int x]) 6) + 0) ≤ (-4001)
      rw [e_6]
      rw [e_16]
      omega
  have nf2 : fc_1 (24, [0, 2], []) ws (vs ++ [Value.int x]) := by
    refine ⟨fun n hn => ?_, ?_⟩
    · have hn : n ∈ [0, 2] := hn
      rw [List.length_append, hl]
      simp only [List.mem_cons, List.not_mem_nil, or_false] at hn
      show n < 16 + 1; omega
    · show n_v (vs ++ [Value.int x]) 0 = n_v (vs ++ [Value.int x]) 2
      first | rfl | simp only [e_0, e_2, q2]
  obtain ⟨x0, e0, _, _⟩ := tv_int t10 rfl
  have e1 : v_iv (n_v vs 10) = x0.toInt := by rw [e0]; rfl
  have ho : sy_ofs (vs ++ [Value.int x]) (16, 10, 0, 0) := by
    refine ⟨x, x0, by rw [List.getElem?_append_right (by rw [hl]; decide), hl]; rfl, ?_, ?_, ?_⟩
    · rw [List.getElem?_append_left (by rw [hl]; decide)]; exact n_v_some (by rw [hl]; decide) e0
    · show x0.toInt + 0 ≤ x.toInt; omega
    · show x.toInt ≤ x0.toInt + 0; omega
  exact ⟨fun q hq => (by cases hq), [Value.int x], ag_one hx, List.forall_mem_cons.mpr ⟨⟨by decide, nf0⟩, List.forall_mem_cons.mpr ⟨⟨by decide, nf1⟩, List.forall_mem_cons.mpr ⟨⟨by decide, nf2⟩, (fun _ h => (by cases h))⟩⟩⟩, List.forall_mem_cons.mpr ⟨ho, (fun _ h => (by cases h))⟩⟩
