def o_Mo_met_0 : or_T := (130, 15, [(0, (2, 0, 0, [150])), (1, (0, 0, 7, [])), (3, (0, 0, 2000, [])), (4, (0, 0, 2000, [])), (6, (0, 1, 1, [])), (9, (0, 24, 24, [])), (10, (0, 24, 24, [])), (13, (0, 0, 0, [])), (14, (0, 0, 24, []))], [(20, [14, 0], [30, 0, 1, 0, 0, -1, 3, 2005000]), (20, [14, 0], [30, 0, -1, 0, 0, 1, 3, 2005000]), (8, [13], [5]), (9, [13, 0], [8]), (20, [9, 0], [30, 0, 1, 0, 0, -1, 3, 2005000]), (20, [9, 0], [30, 0, -1, 0, 0, 1, 3, 2005000]), (20, [0, 0], [30, 0, 1, 1, 15, -1, 1, 11]), (20, [0], [50, 3, 0, 12, 11, 15, 2, 21, 4, 7, 1, 3, 2, 0, 12, 0, 1, 0, 3, 2, 0, 11, 4, 3, 2, 0, 15, 0, 8, 3, 7, 1, 3, 2, 0, 12, 0, 0, 0, 7, 4, 3, 2, 0, 15, 0, 1, 2, 0, 11]), (20, [3, 0], [30, 0, 1, 0, 0, -1, 1, 11]), (20, [0, 4], [50, 2, 0, 12, 11, 3, 7, 1, 3, 2, 0, 12, 0, 0, 0, 6, 4, 2, 1, 1, 0, 1, 2, 0, 11]), (20, [1, 0], [50, 1, 1, 1005, 1002, 0, 6, 4, 2, 1, 0, 0, 1, 3, 1, 2, 4, 3, 2, 1, 5, 0, 2]), (20, [6, 0], [50, 1, 0, 1012, 4, 6, 1, 2, 1, 0, 0, 1, 1, 3, 2, 1, 12, 0, 1]), (20, [0], [30, -1, -1, 1, 8]), (102, [12], [0, 13008, 13009]), (7, [9, 10], [0]), (8, [6], [1])], [(14, (0, 0, 23, []))], [], [], [], [])
theorem oo_Mo_met_0 {kA : Nat → ClassId} : or_ok kA GG o_Mo_met_0 := by
  intro A ta ws vs hD hth hl hk hds hf
  have hl : vs.length = 15 := hl
  have hk : ∀ q ∈ ([(0, (2, 0, 0, [150])), (1, (0, 0, 7, [])), (3, (0, 0, 2000, [])), (4, (0, 0, 2000, [])), (6, (0, 1, 1, [])), (9, (0, 24, 24, [])), (10, (0, 24, 24, [])), (13, (0, 0, 0, [])), (14, (0, 0, 24, []))] : List (Nat × tv_T)), tv_ok ta q.2 (n_v vs q.1) := hk
  obtain ⟨t0, hk⟩ := List.forall_mem_cons.mp hk
  have t0 : tv_ok ta (2, 0, 0, [150]) (n_v vs 0) := t0
  have r0 : ta (v_ad (n_v vs 0)) = some 150 := tv_rg t0
  obtain ⟨t1, hk⟩ := List.forall_mem_cons.mp hk
  have t1 : tv_ok ta (0, 0, 7, []) (n_v vs 1) := t1
  have k1 : 0 ≤ v_iv (n_v vs 1) ∧ v_iv (n_v vs 1) ≤ 7 := tv_rng t1
  obtain ⟨t3, hk⟩ := List.forall_mem_cons.mp hk
  have t3 : tv_ok ta (0, 0, 2000, []) (n_v vs 3) := t3
  have k3 : 0 ≤ v_iv (n_v vs 3) ∧ v_iv (n_v vs 3) ≤ 2000 := tv_rng t3
  obtain ⟨t4, hk⟩ := List.forall_mem_cons.mp hk
  have t4 : tv_ok ta (0, 0, 2000, []) (n_v vs 4) := t4
  have k4 : 0 ≤ v_iv (n_v vs 4) ∧ v_iv (n_v vs 4) ≤ 2000 := tv_rng t4
  obtain ⟨t6, hk⟩ := List.forall_mem_cons.mp hk
  have t6 : tv_ok ta (0, 1, 1, []) (n_v vs 6) := t6
  have k6 : 1 ≤ v_iv (n_v vs 6) ∧ v_iv (n_v vs 6) ≤ 1 := tv_rng t6
  obtain ⟨t9, hk⟩ := List.forall_mem_cons.mp hk
  have t9 : tv_ok ta (0, 24, 24, []) (n_v vs 9) := t9
  have k9 : 24 ≤ v_iv (n_v vs 9) ∧ v_iv (n_v vs 9) ≤ 24 := tv_rng t9
  obtain ⟨t10, hk⟩ := List.forall_mem_cons.mp hk
  have t10 : tv_ok ta (0, 24, 24, []) (n_v vs 10) := t10
  have k10 : 24 ≤ v_iv (n_v vs 10) ∧ v_iv (n_v vs 10) ≤ 24 := tv_rng t10
  obtain ⟨t13, hk⟩ := List.forall_mem_cons.mp hk
  have t13 : tv_ok ta (0, 0, 0, []) (n_v vs 13) := t13
  have k13 : 0 ≤ v_iv (n_v vs 13) ∧ v_iv (n_v vs 13) ≤ 0 := tv_rng t13
  obtain ⟨t14, hk⟩ := List.forall_mem_cons.mp hk
  have t14 : tv_ok ta (0, 0, 24, []) (n_v vs 14) := t14
  have k14 : 0 ≤ v_iv (n_v vs 14) ∧ v_iv (n_v vs 14) ≤ 24 := tv_rng t14
  have hf : fc_ok [(20, [14, 0], [30, 0, 1, 0, 0, -1, 3, 2005000]), (20, [14, 0], [30, 0, -1, 0, 0, 1, 3, 2005000]), (8, [13], [5]), (9, [13, 0], [8]), (20, [9, 0], [30, 0, 1, 0, 0, -1, 3, 2005000]), (20, [9, 0], [30, 0, -1, 0, 0, 1, 3, 2005000]), (20, [0, 0], [30, 0, 1, 1, 15, -1, 1, 11]), (20, [0], [50, 3, 0, 12, 11, 15, 2, 21, 4, 7, 1, 3, 2, 0, 12, 0, 1, 0, 3, 2, 0, 11, 4, 3, 2, 0, 15, 0, 8, 3, 7, 1, 3, 2, 0, 12, 0, 0, 0, 7, 4, 3, 2, 0, 15, 0, 1, 2, 0, 11]), (20, [3, 0], [30, 0, 1, 0, 0, -1, 1, 11]), (20, [0, 4], [50, 2, 0, 12, 11, 3, 7, 1, 3, 2, 0, 12, 0, 0, 0, 6, 4, 2, 1, 1, 0, 1, 2, 0, 11]), (20, [1, 0], [50, 1, 1, 1005, 1002, 0, 6, 4, 2, 1, 0, 0, 1, 3, 1, 2, 4, 3, 2, 1, 5, 0, 2]), (20, [6, 0], [50, 1, 0, 1012, 4, 6, 1, 2, 1, 0, 0, 1, 1, 3, 2, 1, 12, 0, 1]), (20, [0], [30, -1, -1, 1, 8]), (102, [12], [0, 13008, 13009]), (7, [9, 10], [0]), (8, [6], [1])] ta ws vs := hf
  obtain ⟨f0, hf⟩ := fc_un (show (20 : Nat) < 100 from by decide) hf
  have f0 : 1 * v_iv (n_v vs 14) + ((-1) * w_el ws (w_ar ws (n_v vs 0) 2) (w_fi ws (n_v vs 0) 5 + 0).toNat + 0) ≤ 0 := f0
  obtain ⟨f1, hf⟩ := fc_un (show (20 : Nat) < 100 from by decide) hf
  have f1 : (-1) * v_iv (n_v vs 14) + (1 * w_el ws (w_ar ws (n_v vs 0) 2) (w_fi ws (n_v vs 0) 5 + 0).toNat + 0) ≤ 0 := f1
  obtain ⟨f2, hf⟩ := fc_un (show (8 : Nat) < 100 from by decide) hf
  have f2 : v_iv (n_v vs 13) ≤ 0 := f2
  obtain ⟨f3, hf⟩ := fc_un (show (9 : Nat) < 100 from by decide) hf
  have f3 : n_v vs 13 = w_fd ws (v_ad (n_v vs 0)) 8 := f3
  obtain ⟨f4, hf⟩ := fc_un (show (20 : Nat) < 100 from by decide) hf
  have f4 : 1 * v_iv (n_v vs 9) + ((-1) * w_el ws (w_ar ws (n_v vs 0) 2) (w_fi ws (n_v vs 0) 5 + 0).toNat + 0) ≤ 0 := f4
  obtain ⟨f5, hf⟩ := fc_un (show (20 : Nat) < 100 from by decide) hf
  have f5 : (-1) * v_iv (n_v vs 9) + (1 * w_el ws (w_ar ws (n_v vs 0) 2) (w_fi ws (n_v vs 0) 5 + 0).toNat + 0) ≤ 0 := f5
  obtain ⟨f6, hf⟩ := fc_un (show (20 : Nat) < 100 from by decide) hf
  have f6 : 1 * w_fi ws (n_v vs 0) 15 + ((-1) * w_fi ws (n_v vs 0) 11 + 0) ≤ 0 := f6
  obtain ⟨f7, hf⟩ := fc_un (show (20 : Nat) < 100 from by decide) hf
  have f7 : ((w_fi ws (n_v vs 0) 12 = 1) → (w_fi ws (n_v vs 0) 11 ≤ (w_fi ws (n_v vs 0) 15 + 8))) ∧ ((w_fi ws (n_v vs 0) 12 = 0) ∨ ((w_fi ws (n_v vs 0) 15 + 1) ≤ w_fi ws (n_v vs 0) 11)) := f7
  obtain ⟨f8, hf⟩ := fc_un (show (20 : Nat) < 100 from by decide) hf
  have f8 : 1 * v_iv (n_v vs 3) + ((-1) * w_fi ws (n_v vs 0) 11 + 0) ≤ 0 := f8
  obtain ⟨f9, hf⟩ := fc_un (show (20 : Nat) < 100 from by decide) hf
  have f9 : (w_fi ws (n_v vs 0) 12 = 0) ∨ ((v_iv (n_v vs 4) + 1) ≤ w_fi ws (n_v vs 0) 11) := f9
  obtain ⟨f10, hf⟩ := fc_un (show (20 : Nat) < 100 from by decide) hf
  have f10 : (v_iv (n_v vs 1) + 1) ≤ w_ei ws (w_ar ws (n_v vs 0) 2) ((w_fi ws (n_v vs 0) 5 + 2)) := f10
  obtain ⟨f11, hf⟩ := fc_un (show (20 : Nat) < 100 from by decide) hf
  have f11 : (v_iv (n_v vs 6) = 1) → (w_fi ws (n_v vs 0) 12 = 1) := f11
  obtain ⟨f12, hf⟩ := fc_un (show (20 : Nat) < 100 from by decide) hf
  have f12 : (-1) * w_fi ws (n_v vs 0) 8 + 0 ≤ (-1) := f12
  obtain ⟨ta1, w1, le1, ⟨_, s1⟩, hf⟩ := fc_us (show ¬ (102 : Nat) < 100 from by decide) hf
  obtain ⟨f14, hf⟩ := fc_un (show (7 : Nat) < 100 from by decide) hf
  have f14 : v_iv (n_v vs 9) = v_iv (n_v vs 10) := f14
  obtain ⟨f15, hf⟩ := fc_un (show (8 : Nat) < 100 from by decide) hf
  have f15 : v_iv (n_v vs 6) ≠ 0 := f15
  have cr_0_2 : ta (w_ar ws (n_v vs 0) 2) = some 152 := tv_rg (th_fd hD hth r0 (g := GG_150) rfl (k := 2) (t := (2, 0, 0, [152])) rfl rfl)
  have g3 : v_iv (n_v vs 13) = w_fi ws (n_v vs 0) 8 := congrArg v_iv f3
  have br_0_2_F5_0_0 : w_ei ws (w_ar ws (n_v vs 0) 2) (w_fi ws (n_v vs 0) 5 + 0) = w_el ws (w_ar ws (n_v vs 0) 2) (w_fi ws (n_v vs 0) 5 + 0).toNat := rfl
  have kz_0_8 : 0 ≤ w_fi ws (n_v vs 0) 8 ∧ w_fi ws (n_v vs 0) 8 ≤ 5 := tv_rng (th_fd hD hth r0 (g := GG_150) rfl (k := 8) (t := (0, 0, 5, [])) rfl rfl)
  have kz_0_11 : 0 ≤ w_fi ws (n_v vs 0) 11 ∧ w_fi ws (n_v vs 0) 11 ≤ 2000 := tv_rng (th_fd hD hth r0 (g := GG_150) rfl (k := 11) (t := (0, 0, 2000, [])) rfl rfl)
  have kz_0_12 : 0 ≤ w_fi ws (n_v vs 0) 12 ∧ w_fi ws (n_v vs 0) 12 ≤ 4 := tv_rng (th_fd hD hth r0 (g := GG_150) rfl (k := 12) (t := (0, 0, 4, [])) rfl rfl)
  have kz_0_15 : 0 ≤ w_fi ws (n_v vs 0) 15 ∧ w_fi ws (n_v vs 0) 15 ≤ 2000 := tv_rng (th_fd hD hth r0 (g := GG_150) rfl (k := 15) (t := (0, 0, 2000, [])) rfl rfl)
  have rf14 : tv_ok ta (0, 0, 23, []) (n_v vs 14) := tv_in t14 (by first | omega | grind) (by first | omega | grind)
  refine ⟨List.forall_mem_cons.mpr ⟨rf14, (fun _ h => (by cases h))⟩, [], trivial, ?_, (fun _ h => (by cases h))⟩
  rw [List.append_nil]
  exact (fun _ h => (by cases h))
def o_Mo_met_1 : or_T := (143, 20, [(0, (2, 0, 0, [150])), (1, (0, 0, 7, [])), (3, (0, 0, 2000, [])), (4, (0, 0, 2000, [])), (6, (0, 1, 1, [])), (9, (0, 24, 24, [])), (10, (0, 24, 24, [])), (13, (0, 0, 0, [])), (14, (0, 0, 23, [])), (15, (2, 0, 0, [152])), (16, (0, 0, 66297, [])), (17, (0, 0, 24, [])), (18, (0, 1, 1, [])), (19, (0, 1, 25, []))], [(1, [19, 17, 18], []), (10, [17, 15, 16], []), (9, [16, 0], [5]), (9, [15, 0], [2]), (20, [14, 0], [30, 0, 1, 0, 0, -1, 3, 2005000]), (20, [14, 0], [30, 0, -1, 0, 0, 1, 3, 2005000]), (8, [13], [5]), (9, [13, 0], [8]), (20, [9, 0], [30, 0, 1, 0, 0, -1, 3, 2005000]), (20, [9, 0], [30, 0, -1, 0, 0, 1, 3, 2005000]), (20, [0, 0], [30, 0, 1, 1, 15, -1, 1, 11]), (20, [0], [50, 3, 0, 12, 11, 15, 2, 21, 4, 7, 1, 3, 2, 0, 12, 0, 1, 0, 3, 2, 0, 11, 4, 3, 2, 0, 15, 0, 8, 3, 7, 1, 3, 2, 0, 12, 0, 0, 0, 7, 4, 3, 2, 0, 15, 0, 1, 2, 0, 11]), (20, [3, 0], [30, 0, 1, 0, 0, -1, 1, 11]), (20, [0, 4], [50, 2, 0, 12, 11, 3, 7, 1, 3, 2, 0, 12, 0, 0, 0, 6, 4, 2, 1, 1, 0, 1, 2, 0, 11]), (20, [1, 0], [50, 1, 1, 1005, 1002, 0, 6, 4, 2, 1, 0, 0, 1, 3, 1, 2, 4, 3, 2, 1, 5, 0, 2]), (20, [6, 0], [50, 1, 0, 1012, 4, 6, 1, 2, 1, 0, 0, 1, 1, 3, 2, 1, 12, 0, 1]), (20, [0], [30, -1, -1, 1, 8]), (102, [12], [0, 13008, 13009]), (7, [9, 10], [0]), (8, [6], [1])], [(19, (0, 1, 24, []))], [], [], [], [(19, 17, 1, 1)])
theorem oo_Mo_met_1 {kA : Nat → ClassId} : or_ok kA GG o_Mo_met_1 := by
  intro A ta ws vs hD hth hl hk hds hf
  have hl : vs.length = 20 := hl
  have hk : ∀ q ∈ ([(0, (2, 0, 0, [150])), (1, (0, 0, 7, [])), (3, (0, 0, 2000, [])), (4, (0, 0, 2000, [])), (6, (0, 1, 1, [])), (9, (0, 24, 24, [])), (10, (0, 24, 24, [])), (13, (0, 0, 0, [])), (14, (0, 0, 23, [])), (15, (2, 0, 0, [152])), (16, (0, 0, 66297, [])), (17, (0, 0, 24, [])), (18, (0, 1, 1, [])), (19, (0, 1, 25, []))] : List (Nat × tv_T)), tv_ok ta q.2 (n_v vs q.1) := hk
  obtain ⟨t0, hk⟩ := List.forall_mem_cons.mp hk
  have t0 : tv_ok ta (2, 0, 0, [150]) (n_v vs 0) := t0
  have r0 : ta (v_ad (n_v vs 0)) = some 150 := tv_rg t0
  obtain ⟨t1, hk⟩ := List.forall_mem_cons.mp hk
  have t1 : tv_ok ta (0, 0, 7, []) (n_v vs 1) := t1
  have k1 : 0 ≤ v_iv (n_v vs 1) ∧ v_iv (n_v vs 1) ≤ 7 := tv_rng t1
  obtain ⟨t3, hk⟩ := List.forall_mem_cons.mp hk
  have t3 : tv_ok ta (0, 0, 2000, []) (n_v vs 3) := t3
  have k3 : 0 ≤ v_iv (n_v vs 3) ∧ v_iv (n_v vs 3) ≤ 2000 := tv_rng t3
  obtain ⟨t4, hk⟩ := List.forall_mem_cons.mp hk
  have t4 : tv_ok ta (0, 0, 2000, []) (n_v vs 4) := t4
  have k4 : 0 ≤ v_iv (n_v vs 4) ∧ v_iv (n_v vs 4) ≤ 2000 := tv_rng t4
  obtain ⟨t6, hk⟩ := List.forall_mem_cons.mp hk
  have t6 : tv_ok ta (0, 1, 1, []) (n_v vs 6) := t6
  have k6 : 1 ≤ v_iv (n_v vs 6) ∧ v_iv (n_v vs 6) ≤ 1 := tv_rng t6
  obtain ⟨t9, hk⟩ := List.forall_mem_cons.mp hk
  have t9 : tv_ok ta (0, 24, 24, []) (n_v vs 9) := t9
  have k9 : 24 ≤ v_iv (n_v vs 9) ∧ v_iv (n_v vs 9) ≤ 24 := tv_rng t9
  obtain ⟨t10, hk⟩ := List.forall_mem_cons.mp hk
  have t10 : tv_ok ta (0, 24, 24, []) (n_v vs 10) := t10
  have k10 : 24 ≤ v_iv (n_v vs 10) ∧ v_iv (n_v vs 10) ≤ 24 := tv_rng t10
  obtain ⟨t13, hk⟩ := List.forall_mem_cons.mp hk
  have t13 : tv_ok ta (0, 0, 0, []) (n_v vs 13) := t13
  have k13 : 0 ≤ v_iv (n_v vs 13) ∧ v_iv (n_v vs 13) ≤ 0 := tv_rng t13
  obtain ⟨t14, hk⟩ := List.forall_mem_cons.mp hk
  have t14 : tv_ok ta (0, 0, 23, []) (n_v vs 14) := t14
  have k14 : 0 ≤ v_iv (n_v vs 14) ∧ v_iv (n_v vs 14) ≤ 23 := tv_rng t14
  obtain ⟨t15, hk⟩ := List.forall_mem_cons.mp hk
  have t15 : tv_ok ta (2, 0, 0, [152]) (n_v vs 15) := t15
  have r15 : ta (v_ad (n_v vs 15)) = some 152 := tv_rg t15
  obtain ⟨t16, hk⟩ := List.forall_mem_cons.mp hk
  have t16 : tv_ok ta (0, 0, 66297, []) (n_v vs 16) := t16
  have k16 : 0 ≤ v_iv (n_v vs 16) ∧ v_iv (n_v vs 16) ≤ 66297 := tv_rng t16
  obtain ⟨t17, hk⟩ := List.forall_mem_cons.mp hk
  have t17 : tv_ok ta (0, 0, 24, []) (n_v vs 17) := t17
  have k17 : 0 ≤ v_iv (n_v vs 17) ∧ v_iv (n_v vs 17) ≤ 24 := tv_rng t17
  obtain ⟨t18, hk⟩ := List.forall_mem_cons.mp hk
  have t18 : tv_ok ta (0, 1, 1, []) (n_v vs 18) := t18
  have k18 : 1 ≤ v_iv (n_v vs 18) ∧ v_iv (n_v vs 18) ≤ 1 := tv_rng t18
  obtain ⟨t19, hk⟩ := List.forall_mem_cons.mp hk
  have t19 : tv_ok ta (0, 1, 25, []) (n_v vs 19) := t19
  have k19 : 1 ≤ v_iv (n_v vs 19) ∧ v_iv (n_v vs 19) ≤ 25 := tv_rng t19
  have hds : ∀ q ∈ ([(19, 17, 1, 1)] : List of_T), n_iv vs q.2.1 + q.2.2.1 ≤ n_iv vs q.1 ∧ n_iv vs q.1 ≤ n_iv vs q.2.1 + q.2.2.2 := hds
  obtain ⟨d0, hds⟩ := List.forall_mem_cons.mp hds
  have d0 : v_iv (n_v vs 17) + 1 ≤ v_iv (n_v vs 19) ∧ v_iv (n_v vs 19) ≤ v_iv (n_v vs 17) + 1 := d0
  have hf : fc_ok [(1, [19, 17, 18], []), (10, [17, 15, 16], []), (9, [16, 0], [5]), (9, [15, 0], [2]), (20, [14, 0], [30, 0, 1, 0, 0, -1, 3, 2005000]), (20, [14, 0], [30, 0, -1, 0, 0, 1, 3, 2005000]), (8, [13], [5]), (9, [13, 0], [8]), (20, [9, 0], [30, 0, 1, 0, 0, -1, 3, 2005000]), (20, [9, 0], [30, 0, -1, 0, 0, 1, 3, 2005000]), (20, [0, 0], [30, 0, 1, 1, 15, -1, 1, 11]), (20, [0], [50, 3, 0, 12, 11, 15, 2, 21, 4, 7, 1, 3, 2, 0, 12, 0, 1, 0, 3, 2, 0, 11, 4, 3, 2, 0, 15, 0, 8, 3, 7, 1, 3, 2, 0, 12, 0, 0, 0, 7, 4, 3, 2, 0, 15, 0, 1, 2, 0, 11]), (20, [3, 0], [30, 0, 1, 0, 0, -1, 1, 11]), (20, [0, 4], [50, 2, 0, 12, 11, 3, 7, 1, 3, 2, 0, 12, 0, 0, 0, 6, 4, 2, 1, 1, 0, 1, 2, 0, 11]), (20, [1, 0], [50, 1, 1, 1005, 1002, 0, 6, 4, 2, 1, 0, 0, 1, 3, 1, 2, 4, 3, 2, 1, 5, 0, 2]), (20, [6, 0], [50, 1, 0, 1012, 4, 6, 1, 2, 1, 0, 0, 1, 1, 3, 2, 1, 12, 0, 1]), (20, [0], [30, -1, -1, 1, 8]), (102, [12], [0, 13008, 13009]), (7, [9, 10], [0]), (8, [6], [1])] ta ws vs := hf
  obtain ⟨f0, hf⟩ := fc_un (show (1 : Nat) < 100 from by decide) hf
  have f0 : v_iv (n_v vs 19) = v_iv (n_v vs 17) + v_iv (n_v vs 18) := f0
  obtain ⟨f1, hf⟩ := fc_un (show (10 : Nat) < 100 from by decide) hf
  have f1 : v_iv (n_v vs 17) = w_el ws (v_ad (n_v vs 15)) (v_iv (n_v vs 16)).toNat := f1
  obtain ⟨f2, hf⟩ := fc_un (show (9 : Nat) < 100 from by decide) hf
  have f2 : n_v vs 16 = w_fd ws (v_ad (n_v vs 0)) 5 := f2
  obtain ⟨f3, hf⟩ := fc_un (show (9 : Nat) < 100 from by decide) hf
  have f3 : n_v vs 15 = w_fd ws (v_ad (n_v vs 0)) 2 := f3
  obtain ⟨f4, hf⟩ := fc_un (show (20 : Nat) < 100 from by decide) hf
  have f4 : 1 * v_iv (n_v vs 14) + ((-1) * w_el ws (w_ar ws (n_v vs 0) 2) (w_fi ws (n_v vs 0) 5 + 0).toNat + 0) ≤ 0 := f4
  obtain ⟨f5, hf⟩ := fc_un (show (20 : Nat) < 100 from by decide) hf
  have f5 : (-1) * v_iv (n_v vs 14) + (1 * w_el ws (w_ar ws (n_v vs 0) 2) (w_fi ws (n_v vs 0) 5 + 0).toNat + 0) ≤ 0 := f5
  obtain ⟨f6, hf⟩ := fc_un (show (8 : Nat) < 100 from by decide) hf
  have f6 : v_iv (n_v vs 13) ≤ 0 := f6
  obtain ⟨f7, hf⟩ := fc_un (show (9 : Nat) < 100 from by decide) hf
  have f7 : n_v vs 13 = w_fd ws (v_ad (n_v vs 0)) 8 := f7
  obtain ⟨f8, hf⟩ := fc_un (show (20 : Nat) < 100 from by decide) hf
  have f8 : 1 * v_iv (n_v vs 9) + ((-1) * w_el ws (w_ar ws (n_v vs 0) 2) (w_fi ws (n_v vs 0) 5 + 0).toNat + 0) ≤ 0 := f8
  obtain ⟨f9, hf⟩ := fc_un (show (20 : Nat) < 100 from by decide) hf
  have f9 : (-1) * v_iv (n_v vs 9) + (1 * w_el ws (w_ar ws (n_v vs 0) 2) (w_fi ws (n_v vs 0) 5 + 0).toNat + 0) ≤ 0 := f9
  obtain ⟨f10, hf⟩ := fc_un (show (20 : Nat) < 100 from by decide) hf
  have f10 : 1 * w_fi ws (n_v vs 0) 15 + ((-1) * w_fi ws (n_v vs 0) 11 + 0) ≤ 0 := f10
  obtain ⟨f11, hf⟩ := fc_un (show (20 : Nat) < 100 from by decide) hf
  have f11 : ((w_fi ws (n_v vs 0) 12 = 1) → (w_fi ws (n_v vs 0) 11 ≤ (w_fi ws (n_v vs 0) 15 + 8))) ∧ ((w_fi ws (n_v vs 0) 12 = 0) ∨ ((w_fi ws (n_v vs 0) 15 + 1) ≤ w_fi ws (n_v vs 0) 11)) := f11
  obtain ⟨f12, hf⟩ := fc_un (show (20 : Nat) < 100 from by decide) hf
  have f12 : 1 * v_iv (n_v vs 3) + ((-1) * w_fi ws (n_v vs 0) 11 + 0) ≤ 0 := f12
  obtain ⟨f13, hf⟩ := fc_un (show (20 : Nat) < 100 from by decide) hf
  have f13 : (w_fi ws (n_v vs 0) 12 = 0) ∨ ((v_iv (n_v vs 4) + 1) ≤ w_fi ws (n_v vs 0) 11) := f13
  obtain ⟨f14, hf⟩ := fc_un (show (20 : Nat) < 100 from by decide) hf
  have f14 : (v_iv (n_v vs 1) + 1) ≤ w_ei ws (w_ar ws (n_v vs 0) 2) ((w_fi ws (n_v vs 0) 5 + 2)) := f14
  obtain ⟨f15, hf⟩ := fc_un (show (20 : Nat) < 100 from by decide) hf
  have f15 : (v_iv (n_v vs 6) = 1) → (w_fi ws (n_v vs 0) 12 = 1) := f15
  obtain ⟨f16, hf⟩ := fc_un (show (20 : Nat) < 100 from by decide) hf
  have f16 : (-1) * w_fi ws (n_v vs 0) 8 + 0 ≤ (-1) := f16
  obtain ⟨ta1, w1, le1, ⟨_, s1⟩, hf⟩ := fc_us (show ¬ (102 : Nat) < 100 from by decide) hf
  obtain ⟨f18, hf⟩ := fc_un (show (7 : Nat) < 100 from by decide) hf
  have f18 : v_iv (n_v vs 9) = v_iv (n_v vs 10) := f18
  obtain ⟨f19, hf⟩ := fc_un (show (8 : Nat) < 100 from by decide) hf
  have f19 : v_iv (n_v vs 6) ≠ 0 := f19
  have cr_0_2 : ta (w_ar ws (n_v vs 0) 2) = some 152 := tv_rg (th_fd hD hth r0 (g := GG_150) rfl (k := 2) (t := (2, 0, 0, [152])) rfl rfl)
  have ad_15 : v_ad (n_v vs 15) = w_ar ws (n_v vs 0) 2 := congrArg v_ad f3
  rw [ad_15] at f1
  have h1 : v_iv (n_v vs 17) = w_ei ws (w_ar ws (n_v vs 0) 2) (v_iv (n_v vs 16)) := f1
  have g2 : v_iv (n_v vs 16) = w_fi ws (n_v vs 0) 5 := congrArg v_iv f2
  have g7 : v_iv (n_v vs 13) = w_fi ws (n_v vs 0) 8 := congrArg v_iv f7
  have cg1_F5_0 : v_iv (n_v vs 16) = w_fi ws (n_v vs 0) 5 + 0 → w_el ws (w_ar ws (n_v vs 0) 2) (v_iv (n_v vs 16)).toNat = w_el ws (w_ar ws (n_v vs 0) 2) (w_fi ws (n_v vs 0) 5 + 0).toNat := fun h => by rw [h]
  have br_0_2_F5_0_0 : w_ei ws (w_ar ws (n_v vs 0) 2) (w_fi ws (n_v vs 0) 5 + 0) = w_el ws (w_ar ws (n_v vs 0) 2) (w_fi ws (n_v vs 0) 5 + 0).toNat := rfl
  have br_0_2_16_0 : w_ei ws (w_ar ws (n_v vs 0) 2) (v_iv (n_v vs 16)) = w_el ws (w_ar ws (n_v vs 0) 2) (v_iv (n_v vs 16)).toNat := rfl
  have kz_0_8 : 0 ≤ w_fi ws (n_v vs 0) 8 ∧ w_fi ws (n_v vs 0) 8 ≤ 5 := tv_rng (th_fd hD hth r0 (g := GG_150) rfl (k := 8) (t := (0, 0, 5, [])) rfl rfl)
  have kz_0_11 : 0 ≤ w_fi ws (n_v vs 0) 11 ∧ w_fi ws (n_v vs 0) 11 ≤ 2000 := tv_rng (th_fd hD hth r0 (g := GG_150) rfl (k := 11) (t := (0, 0, 2000, [])) rfl rfl)
  have kz_0_12 : 0 ≤ w_fi ws (n_v vs 0) 12 ∧ w_fi ws (n_v vs 0) 12 ≤ 4 := tv_rng (th_fd hD hth r0 (g := GG_150) rfl (k := 12) (t := (0, 0, 4, [])) rfl rfl)
  have kz_0_15 : 0 ≤ w_fi ws (n_v vs 0) 15 ∧ w_fi ws (n_v vs 0) 15 ≤ 2000 := tv_rng (th_fd hD hth r0 (g := GG_150) rfl (k := 15) (t := (0, 0, 2000, [])) rfl rfl)
  have rf19 : tv_ok ta (0, 1, 24, []) (n_v vs 19) := tv_in t19 (by first | omega | grind) (by first | omega | grind)
  refine ⟨List.forall_mem_cons.mpr ⟨rf19, (fun _ h => (by cases h))⟩, [], trivial, ?_, (fun _ h => (by cases h))⟩
  rw [List.append_nil]
  exact (fun _ h => (by cases h))
def o_Mo_met_2 : or_T := (167, 26, [(0, (2, 0, 0, [150])), (1, (0, 0, 7, [])), (3, (0, 0, 2000, [])), (4, (0, 0, 2000, [])), (6, (0, 1, 1, [])), (9, (0, 24, 24, [])), (10, (0, 24, 24, [])), (13, (0, 0, 0, [])), (14, (0, 0, 23, [])), (15, (2, 0, 0, [152])), (16, (0, 0, 66297, [])), (17, (0, 0, 24, [])), (18, (0, 1, 1, [])), (19, (0, 1, 24, [])), (23, (0, 0, 2000, [])), (24, (0, 0, 2000, [])), (25, (0, -2000, 2000, []))], [(2, [25, 23, 24], []), (9, [24, 0], [15]), (9, [23, 0], [11]), (9, [16, 0], [5]), (9, [15, 0], [2]), (20, [0, 0], [30, 0, 1, 1, 15, -1, 1, 11]), (20, [0], [50, 3, 0, 12, 11, 15, 2, 21, 4, 7, 1, 3, 2, 0, 12, 0, 1, 0, 3, 2, 0, 11, 4, 3, 2, 0, 15, 0, 8, 3, 7, 1, 3, 2, 0, 12, 0, 0, 0, 7, 4, 3, 2, 0, 15, 0, 1, 2, 0, 11]), (20, [3, 0], [30, 0, 1, 0, 0, -1, 1, 11]), (20, [0, 4], [50, 2, 0, 12, 11, 3, 7, 1, 3, 2, 0, 12, 0, 0, 0, 6, 4, 2, 1, 1, 0, 1, 2, 0, 11]), (20, [6, 0], [50, 1, 0, 1012, 4, 6, 1, 2, 1, 0, 0, 1, 1, 3, 2, 1, 12, 0, 1]), (20, [0], [30, -1, -1, 1, 8]), (100, [15, 16, 19], []), (1, [19, 17, 18], []), (10, [17, 15, 16], []), (20, [14, 0], [30, 0, 1, 0, 0, -1, 3, 2005000]), (20, [14, 0], [30, 0, -1, 0, 0, 1, 3, 2005000]), (8, [13], [5]), (9, [13, 0], [8]), (20, [9, 0], [30, 0, 1, 0, 0, -1, 3, 2005000]), (20, [9, 0], [30, 0, -1, 0, 0, 1, 3, 2005000]), (20, [0, 0], [30, 0, 1, 1, 15, -1, 1, 11]), (20, [0], [50, 3, 0, 12, 11, 15, 2, 21, 4, 7, 1, 3, 2, 0, 12, 0, 1, 0, 3, 2, 0, 11, 4, 3, 2, 0, 15, 0, 8, 3, 7, 1, 3, 2, 0, 12, 0, 0, 0, 7, 4, 3, 2, 0, 15, 0, 1, 2, 0, 11]), (20, [3, 0], [30, 0, 1, 0, 0, -1, 1, 11]), (20, [0, 4], [50, 2, 0, 12, 11, 3, 7, 1, 3, 2, 0, 12, 0, 0, 0, 6, 4, 2, 1, 1, 0, 1, 2, 0, 11]), (20, [1, 0], [50, 1, 1, 1005, 1002, 0, 6, 4, 2, 1, 0, 0, 1, 3, 1, 2, 4, 3, 2, 1, 5, 0, 2]), (20, [6, 0], [50, 1, 0, 1012, 4, 6, 1, 2, 1, 0, 0, 1, 1, 3, 2, 1, 12, 0, 1]), (20, [0], [30, -1, -1, 1, 8]), (102, [12], [0, 13008, 13009]), (7, [9, 10], [0]), (8, [6], [1])], [(25, (0, 0, 8, []))], [], [], [], [(25, 23, -2000, 0), (19, 17, 1, 1)])
theorem oo_Mo_met_2 {kA : Nat → ClassId} : or_ok kA GG o_Mo_met_2 := by
  intro A ta ws vs hD hth hl hk hds hf
  have hl : vs.length = 26 := hl
  have hk : ∀ q ∈ ([(0, (2, 0, 0, [150])), (1, (0, 0, 7, [])), (3, (0, 0, 2000, [])), (4, (0, 0, 2000, [])), (6, (0, 1, 1, [])), (9, (0, 24, 24, [])), (10, (0, 24, 24, [])), (13, (0, 0, 0, [])), (14, (0, 0, 23, [])), (15, (2, 0, 0, [152])), (16, (0, 0, 66297, [])), (17, (0, 0, 24, [])), (18, (0, 1, 1, [])), (19, (0, 1, 24, [])), (23, (0, 0, 2000, [])), (24, (0, 0, 2000, [])), (25, (0, -2000, 2000, []))] : List (Nat × tv_T)), tv_ok ta q.2 (n_v vs q.1) := hk
  obtain ⟨t0, hk⟩ := List.forall_mem_cons.mp hk
  have t0 : tv_ok ta (2, 0, 0, [150]) (n_v vs 0) := t0
  have r0 : ta (v_ad (n_v vs 0)) = some 150 := tv_rg t0
  obtain ⟨t1, hk⟩ := List.forall_mem_cons.mp hk
  have t1 : tv_ok ta (0, 0, 7, []) (n_v vs 1) := t1
  have k1 : 0 ≤ v_iv (n_v vs 1) ∧ v_iv (n_v vs 1) ≤ 7 := tv_rng t1
  obtain ⟨t3, hk⟩ := List.forall_mem_cons.mp hk
  have t3 : tv_ok ta (0, 0, 2000, []) (n_v vs 3) := t3
  have k3 : 0 ≤ v_iv (n_v vs 3) ∧ v_iv (n_v vs 3) ≤ 2000 := tv_rng t3
  obtain ⟨t4, hk⟩ := List.forall_mem_cons.mp hk
  have t4 : tv_ok ta (0, 0, 2000, []) (n_v vs 4) := t4
  have k4 : 0 ≤ v_iv (n_v vs 4) ∧ v_iv (n_v vs 4) ≤ 2000 := tv_rng t4
  obtain ⟨t6, hk⟩ := List.forall_mem_cons.mp hk
  have t6 : tv_ok ta (0, 1, 1, []) (n_v vs 6) := t6
  have k6 : 1 ≤ v_iv (n_v vs 6) ∧ v_iv (n_v vs 6) ≤ 1 := tv_rng t6
  obtain ⟨t9, hk⟩ := List.forall_mem_cons.mp hk
  have t9 : tv_ok ta (0, 24, 24, []) (n_v vs 9) := t9
  have k9 : 24 ≤ v_iv (n_v vs 9) ∧ v_iv (n_v vs 9) ≤ 24 := tv_rng t9
  obtain ⟨t10, hk⟩ := List.forall_mem_cons.mp hk
  have t10 : tv_ok ta (0, 24, 24, []) (n_v vs 10) := t10
  have k10 : 24 ≤ v_iv (n_v vs 10) ∧ v_iv (n_v vs 10) ≤ 24 := tv_rng t10
  obtain ⟨t13, hk⟩ := List.forall_mem_cons.mp hk
  have t13 : tv_ok ta (0, 0, 0, []) (n_v vs 13) := t13
  have k13 : 0 ≤ v_iv (n_v vs 13) ∧ v_iv (n_v vs 13) ≤ 0 := tv_rng t13
  obtain ⟨t14, hk⟩ := List.forall_mem_cons.mp hk
  have t14 : tv_ok ta (0, 0, 23, []) (n_v vs 14) := t14
  have k14 : 0 ≤ v_iv (n_v vs 14) ∧ v_iv (n_v vs 14) ≤ 23 := tv_rng t14
  obtain ⟨t15, hk⟩ := List.forall_mem_cons.mp hk
  have t15 : tv_ok ta (2, 0, 0, [152]) (n_v vs 15) := t15
  have r15 : ta (v_ad (n_v vs 15)) = some 152 := tv_rg t15
  obtain ⟨t16, hk⟩ := List.forall_mem_cons.mp hk
  have t16 : tv_ok ta (0, 0, 66297, []) (n_v vs 16) := t16
  have k16 : 0 ≤ v_iv (n_v vs 16) ∧ v_iv (n_v vs 16) ≤ 66297 := tv_rng t16
  obtain ⟨t17, hk⟩ := List.forall_mem_cons.mp hk
  have t17 : tv_ok ta (0, 0, 24, []) (n_v vs 17) := t17
  have k17 : 0 ≤ v_iv (n_v vs 17) ∧ v_iv (n_v vs 17) ≤ 24 := tv_rng t17
  obtain ⟨t18, hk⟩ := List.forall_mem_cons.mp hk
  have t18 : tv_ok ta (0, 1, 1, []) (n_v vs 18) := t18
  have k18 : 1 ≤ v_iv (n_v vs 18) ∧ v_iv (n_v vs 18) ≤ 1 := tv_rng t18
  obtain ⟨t19, hk⟩ := List.forall_mem_cons.mp hk
  have t19 : tv_ok ta (0, 1, 24, []) (n_v vs 19) := t19
  have k19 : 1 ≤ v_iv (n_v vs 19) ∧ v_iv (n_v vs 19) ≤ 24 := tv_rng t19
  obtain ⟨t23, hk⟩ := List.forall_mem_cons.mp hk
  have t23 : tv_ok ta (0, 0, 2000, []) (n_v vs 23) := t23
  have k23 : 0 ≤ v_iv (n_v vs 23) ∧ v_iv (n_v vs 23) ≤ 2000 := tv_rng t23
  obtain ⟨t24, hk⟩ := List.forall_mem_cons.mp hk
  have t24 : tv_ok ta (0, 0, 2000, []) (n_v vs 24) := t24
  have k24 : 0 ≤ v_iv (n_v vs 24) ∧ v_iv (n_v vs 24) ≤ 2000 := tv_rng t24
  obtain ⟨t25, hk⟩ := List.forall_mem_cons.mp hk
  have t25 : tv_ok ta (0, -2000, 2000, []) (n_v vs 25) := t25
  have k25 : (-2000) ≤ v_iv (n_v vs 25) ∧ v_iv (n_v vs 25) ≤ 2000 := tv_rng t25
  have hds : ∀ q ∈ ([(25, 23, -2000, 0), (19, 17, 1, 1)] : List of_T), n_iv vs q.2.1 + q.2.2.1 ≤ n_iv vs q.1 ∧ n_iv vs q.1 ≤ n_iv vs q.2.1 + q.2.2.2 := hds
  obtain ⟨d0, hds⟩ := List.forall_mem_cons.mp hds
  have d0 : v_iv (n_v vs 23) + (-2000) ≤ v_iv (n_v vs 25) ∧ v_iv (n_v vs 25) ≤ v_iv (n_v vs 23) + 0 := d0
  obtain ⟨d1, hds⟩ := List.forall_mem_cons.mp hds
  have d1 : v_iv (n_v vs 17) + 1 ≤ v_iv (n_v vs 19) ∧ v_iv (n_v vs 19) ≤ v_iv (n_v vs 17) + 1 := d1
  have hf : fc_ok [(2, [25, 23, 24], []), (9, [24, 0], [15]), (9, [23, 0], [11]), (9, [16, 0], [5]), (9, [15, 0], [2]), (20, [0, 0], [30, 0, 1, 1, 15, -1, 1, 11]), (20, [0], [50, 3, 0, 12, 11, 15, 2, 21, 4, 7, 1, 3, 2, 0, 12, 0, 1, 0, 3, 2, 0, 11, 4, 3, 2, 0, 15, 0, 8, 3, 7, 1, 3, 2, 0, 12, 0, 0, 0, 7, 4, 3, 2, 0, 15, 0, 1, 2, 0, 11]), (20, [3, 0], [30, 0, 1, 0, 0, -1, 1, 11]), (20, [0, 4], [50, 2, 0, 12, 11, 3, 7, 1, 3, 2, 0, 12, 0, 0, 0, 6, 4, 2, 1, 1, 0, 1, 2, 0, 11]), (20, [6, 0], [50, 1, 0, 1012, 4, 6, 1, 2, 1, 0, 0, 1, 1, 3, 2, 1, 12, 0, 1]), (20, [0], [30, -1, -1, 1, 8]), (100, [15, 16, 19], []), (1, [19, 17, 18], []), (10, [17, 15, 16], []), (20, [14, 0], [30, 0, 1, 0, 0, -1, 3, 2005000]), (20, [14, 0], [30, 0, -1, 0, 0, 1, 3, 2005000]), (8, [13], [5]), (9, [13, 0], [8]), (20, [9, 0], [30, 0, 1, 0, 0, -1, 3, 2005000]), (20, [9, 0], [30, 0, -1, 0, 0, 1, 3, 2005000]), (20, [0, 0], [30, 0, 1, 1, 15, -1, 1, 11]), (20, [0], [50, 3, 0, 12, 11, 15, 2, 21, 4, 7, 1, 3, 2, 0, 12, 0, 1, 0, 3, 2, 0, 11, 4, 3, 2, 0, 15, 0, 8, 3, 7, 1, 3, 2, 0, 12, 0, 0, 0, 7, 4, 3, 2, 0, 15, 0, 1, 2, 0, 11]), (20, [3, 0], [30, 0, 1, 0, 0, -1, 1, 11]), (20, [0, 4], [50, 2, 0, 12, 11, 3, 7, 1, 3, 2, 0, 12, 0, 0, 0, 6, 4, 2, 1, 1, 0, 1, 2, 0, 11]), (20, [1, 0], [50, 1, 1, 1005, 1002, 0, 6, 4, 2, 1, 0, 0, 1, 3, 1, 2, 4, 3, 2, 1, 5, 0, 2]), (20, [6, 0], [50, 1, 0, 1012, 4, 6, 1, 2, 1, 0, 0, 1, 1, 3, 2, 1, 12, 0, 1]), (20, [0], [30, -1, -1, 1, 8]), (102, [12], [0, 13008, 13009]), (7, [9, 10], [0]), (8, [6], [1])] ta ws vs := hf
  obtain ⟨f0, hf⟩ := fc_un (show (2 : Nat) < 100 from by decide) hf
  have f0 : v_iv (n_v vs 25) = v_iv (n_v vs 23) - v_iv (n_v vs 24) := f0
  obtain ⟨f1, hf⟩ := fc_un (show (9 : Nat) < 100 from by decide) hf
  have f1 : n_v vs 24 = w_fd ws (v_ad (n_v vs 0)) 15 := f1
  obtain ⟨f2, hf⟩ := fc_un (show (9 : Nat) < 100 from by decide) hf
  have f2 : n_v vs 23 = w_fd ws (v_ad (n_v vs 0)) 11 := f2
  obtain ⟨f3, hf⟩ := fc_un (show (9 : Nat) < 100 from by decide) hf
  have f3 : n_v vs 16 = w_fd ws (v_ad (n_v vs 0)) 5 := f3
  obtain ⟨f4, hf⟩ := fc_un (show (9 : Nat) < 100 from by decide) hf
  have f4 : n_v vs 15 = w_fd ws (v_ad (n_v vs 0)) 2 := f4
  obtain ⟨f5, hf⟩ := fc_un (show (20 : Nat) < 100 from by decide) hf
  have f5 : 1 * w_fi ws (n_v vs 0) 15 + ((-1) * w_fi ws (n_v vs 0) 11 + 0) ≤ 0 := f5
  obtain ⟨f6, hf⟩ := fc_un (show (20 : Nat) < 100 from by decide) hf
  have f6 : ((w_fi ws (n_v vs 0) 12 = 1) → (w_fi ws (n_v vs 0) 11 ≤ (w_fi ws (n_v vs 0) 15 + 8))) ∧ ((w_fi ws (n_v vs 0) 12 = 0) ∨ ((w_fi ws (n_v vs 0) 15 + 1) ≤ w_fi ws (n_v vs 0) 11)) := f6
  obtain ⟨f7, hf⟩ := fc_un (show (20 : Nat) < 100 from by decide) hf
  have f7 : 1 * v_iv (n_v vs 3) + ((-1) * w_fi ws (n_v vs 0) 11 + 0) ≤ 0 := f7
  obtain ⟨f8, hf⟩ := fc_un (show (20 : Nat) < 100 from by decide) hf
  have f8 : (w_fi ws (n_v vs 0) 12 = 0) ∨ ((v_iv (n_v vs 4) + 1) ≤ w_fi ws (n_v vs 0) 11) := f8
  obtain ⟨f9, hf⟩ := fc_un (show (20 : Nat) < 100 from by decide) hf
  have f9 : (v_iv (n_v vs 6) = 1) → (w_fi ws (n_v vs 0) 12 = 1) := f9
  obtain ⟨f10, hf⟩ := fc_un (show (20 : Nat) < 100 from by decide) hf
  have f10 : (-1) * w_fi ws (n_v vs 0) 8 + 0 ≤ (-1) := f10
  obtain ⟨ta1, w1, le1, ⟨_, s1⟩, hf⟩ := fc_us (show ¬ (100 : Nat) < 100 from by decide) hf
  have s1 : (∀ b j, w_el ws b j = if b = v_ad (n_v vs 15) ∧ j = (v_iv (n_v vs 16)).toNat then v_iv (n_v vs 19) else w_el w1 b j) ∧ ∀ b k, w_fd ws b k = w_fd w1 b k := s1
  obtain ⟨f12, hf⟩ := fc_un (show (1 : Nat) < 100 from by decide) hf
  have f12 : v_iv (n_v vs 19) = v_iv (n_v vs 17) + v_iv (n_v vs 18) := f12
  obtain ⟨f13, hf⟩ := fc_un (show (10 : Nat) < 100 from by decide) hf
  have f13 : v_iv (n_v vs 17) = w_el w1 (v_ad (n_v vs 15)) (v_iv (n_v vs 16)).toNat := f13
  obtain ⟨f14, hf⟩ := fc_un (show (20 : Nat) < 100 from by decide) hf
  have f14 : 1 * v_iv (n_v vs 14) + ((-1) * w_el w1 (w_ar w1 (n_v vs 0) 2) (w_fi w1 (n_v vs 0) 5 + 0).toNat + 0) ≤ 0 := f14
  obtain ⟨f15, hf⟩ := fc_un (show (20 : Nat) < 100 from by decide) hf
  have f15 : (-1) * v_iv (n_v vs 14) + (1 * w_el w1 (w_ar w1 (n_v vs 0) 2) (w_fi w1 (n_v vs 0) 5 + 0).toNat + 0) ≤ 0 := f15
  obtain ⟨f16, hf⟩ := fc_un (show (8 : Nat) < 100 from by decide) hf
  have f16 : v_iv (n_v vs 13) ≤ 0 := f16
  obtain ⟨f17, hf⟩ := fc_un (show (9 : Nat) < 100 from by decide) hf
  have f17 : n_v vs 13 = w_fd w1 (v_ad (n_v vs 0)) 8 := f17
  obtain ⟨f18, hf⟩ := fc_un (show (20 : Nat) < 100 from by decide) hf
  have f18 : 1 * v_iv (n_v vs 9) + ((-1) * w_el w1 (w_ar w1 (n_v vs 0) 2) (w_fi w1 (n_v vs 0) 5 + 0).toNat + 0) ≤ 0 := f18
  obtain ⟨f19, hf⟩ := fc_un (show (20 : Nat) < 100 from by decide) hf
  have f19 : (-1) * v_iv (n_v vs 9) + (1 * w_el w1 (w_ar w1 (n_v vs 0) 2) (w_fi w1 (n_v vs 0) 5 + 0).toNat + 0) ≤ 0 := f19
  obtain ⟨f20, hf⟩ := fc_un (show (20 : Nat) < 100 from by decide) hf
  have f20 : 1 * w_fi w1 (n_v vs 0) 15 + ((-1) * w_fi w1 (n_v vs 0) 11 + 0) ≤ 0 := f20
  obtain ⟨f21, hf⟩ := fc_un (show (20 : Nat) < 100 from by decide) hf
  have f21 : ((w_fi w1 (n_v vs 0) 12 = 1) → (w_fi w1 (n_v vs 0) 11 ≤ (w_fi w1 (n_v vs 0) 15 + 8))) ∧ ((w_fi w1 (n_v vs 0) 12 = 0) ∨ ((w_fi w1 (n_v vs 0) 15 + 1) ≤ w_fi w1 (n_v vs 0) 11)) := f21
  obtain ⟨f22, hf⟩ := fc_un (show (20 : Nat) < 100 from by decide) hf
  have f22 : 1 * v_iv (n_v vs 3) + ((-1) * w_fi w1 (n_v vs 0) 11 + 0) ≤ 0 := f22
  obtain ⟨f23, hf⟩ := fc_un (show (20 : Nat) < 100 from by decide) hf
  have f23 : (w_fi w1 (n_v vs 0) 12 = 0) ∨ ((v_iv (n_v vs 4) + 1) ≤ w_fi w1 (n_v vs 0) 11) := f23
  obtain ⟨f24, hf⟩ := fc_un (show (20 : Nat) < 100 from by decide) hf
  have f24 : (v_iv (n_v vs 1) + 1) ≤ w_ei w1 (w_ar w1 (n_v vs 0) 2) ((w_fi w1 (n_v vs 0) 5 + 2)) := f24
  obtain ⟨f25, hf⟩ := fc_un (show (20 : Nat) < 100 from by decide) hf
  have f25 : (v_iv (n_v vs 6) = 1) → (w_fi w1 (n_v vs 0) 12 = 1) := f25
  obtain ⟨f26, hf⟩ := fc_un (show (20 : Nat) < 100 from by decide) hf
  have f26 : (-1) * w_fi w1 (n_v vs 0) 8 + 0 ≤ (-1) := f26
  obtain ⟨ta2, w2, le2, ⟨_, s2⟩, hf⟩ := fc_us (show ¬ (102 : Nat) < 100 from by decide) hf
  obtain ⟨f28, hf⟩ := fc_un (show (7 : Nat) < 100 from by decide) hf
  have f28 : v_iv (n_v vs 9) = v_iv (n_v vs 10) := f28
  obtain ⟨f29, hf⟩ := fc_un (show (8 : Nat) < 100 from by decide) hf
  have f29 : v_iv (n_v vs 6) ≠ 0 := f29
  have ar_0_2_1 : w_ar w1 (n_v vs 0) 2 = w_ar ws (n_v vs 0) 2 := by show v_ad (w_fd w1 _ _) = v_ad (w_fd ws _ _); rw [s1.2]
  have cr_0_2 : ta (w_ar ws (n_v vs 0) 2) = some 152 := tv_rg (th_fd hD hth r0 (g := GG_150) rfl (k := 2) (t := (2, 0, 0, [152])) rfl rfl)
  have fi_0_5_1 : w_fi w1 (n_v vs 0) 5 = w_fi ws (n_v vs 0) 5 := by show v_iv (w_fd w1 _ _) = v_iv (w_fd ws _ _); rw [s1.2]
  have ad_15 : v_ad (n_v vs 15) = w_ar ws (n_v vs 0) 2 := congrArg v_ad f4
  have g1 : v_iv (n_v vs 24) = w_fi ws (n_v vs 0) 15 := congrArg v_iv f1
  have g2 : v_iv (n_v vs 23) = w_fi ws (n_v vs 0) 11 := congrArg v_iv f2
  have g3 : v_iv (n_v vs 16) = w_fi ws (n_v vs 0) 5 := congrArg v_iv f3
  rw [ad_15] at f13
  have h13 : v_iv (n_v vs 17) = w_ei w1 (w_ar ws (n_v vs 0) 2) (v_iv (n_v vs 16)) := f13
  rw [ar_0_2_1] at f14
  rw [fi_0_5_1] at f14
  rw [ar_0_2_1] at f15
  rw [fi_0_5_1] at f15
  have g17 : v_iv (n_v vs 13) = w_fi w1 (n_v vs 0) 8 := congrArg v_iv f17
  rw [ar_0_2_1] at f18
  rw [fi_0_5_1] at f18
  rw [ar_0_2_1] at f19
  rw [fi_0_5_1] at f19
  rw [ar_0_2_1] at f24
  have cg13_F5_0 : v_iv (n_v vs 16) = w_fi ws (n_v vs 0) 5 + 0 → w_el w1 (w_ar ws (n_v vs 0) 2) (v_iv (n_v vs 16)).toNat = w_el w1 (w_ar ws (n_v vs 0) 2) (w_fi ws (n_v vs 0) 5 + 0).toNat := fun h => by rw [h]
  have fe_0_5_1 : w_fi ws (n_v vs 0) 5 = w_fi w1 (n_v vs 0) 5 := congrArg v_iv (s1.2 _ _)
  have fe_0_8_1 : w_fi ws (n_v vs 0) 8 = w_fi w1 (n_v vs 0) 8 := congrArg v_iv (s1.2 _ _)
  have fe_0_11_1 : w_fi ws (n_v vs 0) 11 = w_fi w1 (n_v vs 0) 11 := congrArg v_iv (s1.2 _ _)
  have fe_0_12_1 : w_fi ws (n_v vs 0) 12 = w_fi w1 (n_v vs 0) 12 := congrArg v_iv (s1.2 _ _)
  have fe_0_15_1 : w_fi ws (n_v vs 0) 15 = w_fi w1 (n_v vs 0) 15 := congrArg v_iv (s1.2 _ _)
  first | (have ee_0_2_F5_0_1 : w_el ws (w_ar ws (n_v vs 0) 2) (w_fi ws (n_v vs 0) 5 + 0).toNat = w_el w1 (w_ar ws (n_v vs 0) 2) (w_fi ws (n_v vs 0) 5 + 0).toNat := by rw [s1.1, if_neg (fun e => absurd e.2 (by omega))]) | have ee_0_2_F5_0_1 : ((w_fi ws (n_v vs 0) 5 + 0).toNat = (v_iv (n_v vs 16)).toNat → w_el ws (w_ar ws (n_v vs 0) 2) (w_fi ws (n_v vs 0) 5 + 0).toNat = v_iv (n_v vs 19)) ∧ ((w_fi ws (n_v vs 0) 5 + 0).toNat ≠ (v_iv (n_v vs 16)).toNat → w_el ws (w_ar ws (n_v vs 0) 2) (w_fi ws (n_v vs 0) 5 + 0).toNat = w_el w1 (w_ar ws (n_v vs 0) 2) (w_fi ws (n_v vs 0) 5 + 0).toNat) := ⟨fun h => by rw [s1.1, if_pos ⟨ad_15.symm, h⟩], fun h => by rw [s1.1, if_neg (fun e => h e.2)]⟩
  have ee_0_2_16_1 : w_el ws (w_ar ws (n_v vs 0) 2) (v_iv (n_v vs 16)).toNat = v_iv (n_v vs 19) := by rw [s1.1, if_pos ⟨ad_15.symm, rfl⟩]
  have br_0_2_F5_0_0 : w_ei ws (w_ar ws (n_v vs 0) 2) (w_fi ws (n_v vs 0) 5 + 0) = w_el ws (w_ar ws (n_v vs 0) 2) (w_fi ws (n_v vs 0) 5 + 0).toNat := rfl
  have br_0_2_F5_0_1 : w_ei w1 (w_ar ws (n_v vs 0) 2) (w_fi ws (n_v vs 0) 5 + 0) = w_el w1 (w_ar ws (n_v vs 0) 2) (w_fi ws (n_v vs 0) 5 + 0).toNat := rfl
  have br_0_2_16_0 : w_ei ws (w_ar ws (n_v vs 0) 2) (v_iv (n_v vs 16)) = w_el ws (w_ar ws (n_v vs 0) 2) (v_iv (n_v vs 16)).toNat := rfl
  have br_0_2_16_1 : w_ei w1 (w_ar ws (n_v vs 0) 2) (v_iv (n_v vs 16)) = w_el w1 (w_ar ws (n_v vs 0) 2) (v_iv (n_v vs 16)).toNat := rfl
  have hE_0_2_1 : ∀ j : Int, 0 ≤ j → (j = v_iv (n_v vs 16) → w_ei ws (w_ar ws (n_v vs 0) 2) j = v_iv (n_v vs 19)) ∧ (j ≠ v_iv (n_v vs 16) → w_ei ws (w_ar ws (n_v vs 0) 2) j = w_ei w1 (w_ar ws (n_v vs 0) 2) j) := fun j hj => ⟨fun h => by unfold w_ei; rw [s1.1, if_pos ⟨ad_15.symm, by rw [h]⟩], fun h => by unfold w_ei; rw [s1.1, if_neg (fun e => h (by have := e.2; omega))]⟩
  have kz_0_8 : 0 ≤ w_fi ws (n_v vs 0) 8 ∧ w_fi ws (n_v vs 0) 8 ≤ 5 := tv_rng (th_fd hD hth r0 (g := GG_150) rfl (k := 8) (t := (0, 0, 5, [])) rfl rfl)
  have kz_0_11 : 0 ≤ w_fi ws (n_v vs 0) 11 ∧ w_fi ws (n_v vs 0) 11 ≤ 2000 := tv_rng (th_fd hD hth r0 (g := GG_150) rfl (k := 11) (t := (0, 0, 2000, [])) rfl rfl)
  have kz_0_12 : 0 ≤ w_fi ws (n_v vs 0) 12 ∧ w_fi ws (n_v vs 0) 12 ≤ 4 := tv_rng (th_fd hD hth r0 (g := GG_150) rfl (k := 12) (t := (0, 0, 4, [])) rfl rfl)
  have kz_0_15 : 0 ≤ w_fi ws (n_v vs 0) 15 ∧ w_fi ws (n_v vs 0) 15 ≤ 2000 := tv_rng (th_fd hD hth r0 (g := GG_150) rfl (k := 15) (t := (0, 0, 2000, [])) rfl rfl)
  first | have hJ0 : w_ei w1 (w_ar ws (n_v vs 0) 2) ((w_fi w1 (n_v vs 0) 5 + 2)) = w_ei w1 (w_ar ws (n_v vs 0) 2) ((w_fi ws (n_v vs 0) 5 + 2)) := congrArg _ (show ((w_fi w1 (n_v vs 0) 5 + 2) : Int) = (w_fi ws (n_v vs 0) 5 + 2) from by omega) | skip
  first | have hI1 := (hE_0_2_1 ((w_fi ws (n_v vs 0) 5 + 2)) (by omega)).2 (by omega) | have hI1 := (hE_0_2_1 ((w_fi ws (n_v vs 0) 5 + 2)) (by omega)).1 (by omega) | skip
  have rf25 : tv_ok ta (0, 0, 8, []) (n_v vs 25) := tv_in t25 (by first | omega | grind) (by first | omega | grind)
  refine ⟨List.forall_mem_cons.mpr ⟨rf25, (fun _ h => (by cases h))⟩, [], trivial, ?_, (fun _ h => (by cases h))⟩
  rw [List.append_nil]
  exact (fun _ h => (by cases h))
def o_Mo_met_3 : or_T := (171, 27, [(0, (2, 0, 0, [150])), (1, (0, 0, 7, [])), (2, (0, -1, 23, [])), (3, (0, 0, 2000, [])), (4, (0, 0, 2000, [])), (6, (0, 1, 1, [])), (9, (0, 24, 24, [])), (10, (0, 24, 24, [])), (13, (0, 0, 0, [])), (14, (0, 0, 23, [])), (15, (2, 0, 0, [152])), (16, (0, 0, 66297, [])), (17, (0, 0, 24, [])), (18, (0, 1, 1, [])), (19, (0, 1, 24, [])), (20, (0, 195, 195, [])), (21, (0, 195, 66492, [])), (22, (0, 195, 66515, [])), (23, (0, 0, 2000, [])), (24, (0, 0, 2000, [])), (25, (0, 0, 8, []))], [(20, [0, 0], [30, 0, 1, 1, 15, -1, 1, 11]), (20, [0], [50, 3, 0, 12, 11, 15, 2, 21, 4, 7, 1, 3, 2, 0, 12, 0, 1, 0, 3, 2, 0, 11, 4, 3, 2, 0, 15, 0, 8, 3, 7, 1, 3, 2, 0, 12, 0, 0, 0, 7, 4, 3, 2, 0, 15, 0, 1, 2, 0, 11]), (20, [3, 0], [30, 0, 1, 0, 0, -1, 1, 11]), (20, [0, 4], [50, 2, 0, 12, 11, 3, 7, 1, 3, 2, 0, 12, 0, 0, 0, 6, 4, 2, 1, 1, 0, 1, 2, 0, 11]), (20, [6, 0], [50, 1, 0, 1012, 4, 6, 1, 2, 1, 0, 0, 1, 1, 3, 2, 1, 12, 0, 1]), (20, [0], [30, -1, -1, 1, 8]), (100, [15, 22, 25], []), (2, [25, 23, 24], []), (9, [24, 0], [15]), (9, [23, 0], [11]), (1, [22, 21, 14], []), (1, [21, 16, 20], []), (9, [16, 0], [5]), (9, [15, 0], [2]), (20, [0, 0], [30, 0, 1, 1, 15, -1, 1, 11]), (20, [0], [50, 3, 0, 12, 11, 15, 2, 21, 4, 7, 1, 3, 2, 0, 12, 0, 1, 0, 3, 2, 0, 11, 4, 3, 2, 0, 15, 0, 8, 3, 7, 1, 3, 2, 0, 12, 0, 0, 0, 7, 4, 3, 2, 0, 15, 0, 1, 2, 0, 11]), (20, [3, 0], [30, 0, 1, 0, 0, -1, 1, 11]), (20, [0, 4], [50, 2, 0, 12, 11, 3, 7, 1, 3, 2, 0, 12, 0, 0, 0, 6, 4, 2, 1, 1, 0, 1, 2, 0, 11]), (20, [6, 0], [50, 1, 0, 1012, 4, 6, 1, 2, 1, 0, 0, 1, 1, 3, 2, 1, 12, 0, 1]), (20, [0], [30, -1, -1, 1, 8]), (100, [15, 16, 19], []), (1, [19, 17, 18], []), (10, [17, 15, 16], []), (20, [14, 0], [30, 0, 1, 0, 0, -1, 3, 2005000]), (20, [14, 0], [30, 0, -1, 0, 0, 1, 3, 2005000]), (8, [13], [5]), (9, [13, 0], [8]), (20, [9, 0], [30, 0, 1, 0, 0, -1, 3, 2005000]), (20, [9, 0], [30, 0, -1, 0, 0, 1, 3, 2005000]), (20, [0, 0], [30, 0, 1, 1, 15, -1, 1, 11]), (20, [0], [50, 3, 0, 12, 11, 15, 2, 21, 4, 7, 1, 3, 2, 0, 12, 0, 1, 0, 3, 2, 0, 11, 4, 3, 2, 0, 15, 0, 8, 3, 7, 1, 3, 2, 0, 12, 0, 0, 0, 7, 4, 3, 2, 0, 15, 0, 1, 2, 0, 11]), (20, [3, 0], [30, 0, 1, 0, 0, -1, 1, 11]), (20, [0, 4], [50, 2, 0, 12, 11, 3, 7, 1, 3, 2, 0, 12, 0, 0, 0, 6, 4, 2, 1, 1, 0, 1, 2, 0, 11]), (20, [1, 0], [50, 1, 1, 1005, 1002, 0, 6, 4, 2, 1, 0, 0, 1, 3, 1, 2, 4, 3, 2, 1, 5, 0, 2]), (20, [6, 0], [50, 1, 0, 1012, 4, 6, 1, 2, 1, 0, 0, 1, 1, 3, 2, 1, 12, 0, 1]), (20, [0], [30, -1, -1, 1, 8]), (102, [12], [0, 13008, 13009]), (7, [9, 10], [0]), (8, [6], [1])], [], [], [(20, [4, 0], [30, -1, 1, 0, 0, -1, 1, 11]), (20, [0], [50, 1, 0, 12, 1, 3, 2, 0, 12, 0, 1]), (20, [2, 0], [50, 1, 1, 1005, 1002, 3, 6, 0, 2, 1, 0, 0, -1, 0, 10, 3, 1, 2, 4, 3, 2, 1, 5, 0, 1, 0, 47]), (20, [1, 0], [50, 1, 1, 1005, 1002, 0, 6, 4, 2, 1, 0, 0, 1, 3, 1, 2, 4, 3, 2, 1, 5, 0, 2]), (24, [0, 0], []), (24, [1, 1], []), (24, [2, 2], [])], [], [(25, 23, -2000, 0), (22, 14, 195, 66492), (22, 21, 0, 23), (22, 16, 195, 218), (21, 16, 195, 195), (19, 17, 1, 1)])
theorem oo_Mo_met_3 {kA : Nat → ClassId} : or_ok kA GG o_Mo_met_3 := by
  intro A ta ws vs hD hth hl hk hds hf
  have hl : vs.length = 27 := hl
  have hk : ∀ q ∈ ([(0, (2, 0, 0, [150])), (1, (0, 0, 7, [])), (2, (0, -1, 23, [])), (3, (0, 0, 2000, [])), (4, (0, 0, 2000, [])), (6, (0, 1, 1, [])), (9, (0, 24, 24, [])), (10, (0, 24, 24, [])), (13, (0, 0, 0, [])), (14, (0, 0, 23, [])), (15, (2, 0, 0, [152])), (16, (0, 0, 66297, [])), (17, (0, 0, 24, [])), (18, (0, 1, 1, [])), (19, (0, 1, 24, [])), (20, (0, 195, 195, [])), (21, (0, 195, 66492, [])), (22, (0, 195, 66515, [])), (23, (0, 0, 2000, [])), (24, (0, 0, 2000, [])), (25, (0, 0, 8, []))] : List (Nat × tv_T)), tv_ok ta q.2 (n_v vs q.1) := hk
  obtain ⟨t0, hk⟩ := List.forall_mem_cons.mp hk
  have t0 : tv_ok ta (2, 0, 0, [150]) (n_v vs 0) := t0
  have r0 : ta (v_ad (n_v vs 0)) = some 150 := tv_rg t0
  obtain ⟨t1, hk⟩ := List.forall_mem_cons.mp hk
  have t1 : tv_ok ta (0, 0, 7, []) (n_v vs 1) := t1
  have k1 : 0 ≤ v_iv (n_v vs 1) ∧ v_iv (n_v vs 1) ≤ 7 := tv_rng t1
  obtain ⟨t2, hk⟩ := List.forall_mem_cons.mp hk
  have t2 : tv_ok ta (0, -1, 23, []) (n_v vs 2) := t2
  have k2 : (-1) ≤ v_iv (n_v vs 2) ∧ v_iv (n_v vs 2) ≤ 23 := tv_rng t2
  obtain ⟨t3, hk⟩ := List.forall_mem_cons.mp hk
  have t3 : tv_ok ta (0, 0, 2000, []) (n_v vs 3) := t3
  have k3 : 0 ≤ v_iv (n_v vs 3) ∧ v_iv (n_v vs 3) ≤ 2000 := tv_rng t3
  obtain ⟨t4, hk⟩ := List.forall_mem_cons.mp hk
  have t4 : tv_ok ta (0, 0, 2000, []) (n_v vs 4) := t4
  have k4 : 0 ≤ v_iv (n_v vs 4) ∧ v_iv (n_v vs 4) ≤ 2000 := tv_rng t4
  obtain ⟨t6, hk⟩ := List.forall_mem_cons.mp hk
  have t6 : tv_ok ta (0, 1, 1, []) (n_v vs 6) := t6
  have k6 : 1 ≤ v_iv (n_v vs 6) ∧ v_iv (n_v vs 6) ≤ 1 := tv_rng t6
  obtain ⟨t9, hk⟩ := List.forall_mem_cons.mp hk
  have t9 : tv_ok ta (0, 24, 24, []) (n_v vs 9) := t9
  have k9 : 24 ≤ v_iv (n_v vs 9) ∧ v_iv (n_v vs 9) ≤ 24 := tv_rng t9
  obtain ⟨t10, hk⟩ := List.forall_mem_cons.mp hk
  have t10 : tv_ok ta (0, 24, 24, []) (n_v vs 10) := t10
  have k10 : 24 ≤ v_iv (n_v vs 10) ∧ v_iv (n_v vs 10) ≤ 24 := tv_rng t10
  obtain ⟨t13, hk⟩ := List.forall_mem_cons.mp hk
  have t13 : tv_ok ta (0, 0, 0, []) (n_v vs 13) := t13
  have k13 : 0 ≤ v_iv (n_v vs 13) ∧ v_iv (n_v vs 13) ≤ 0 := tv_rng t13
  obtain ⟨t14, hk⟩ := List.forall_mem_cons.mp hk
  have t14 : tv_ok ta (0, 0, 23, []) (n_v vs 14) := t14
  have k14 : 0 ≤ v_iv (n_v vs 14) ∧ v_iv (n_v vs 14) ≤ 23 := tv_rng t14
  obtain ⟨t15, hk⟩ := List.forall_mem_cons.mp hk
  have t15 : tv_ok ta (2, 0, 0, [152]) (n_v vs 15) := t15
  have r15 : ta (v_ad (n_v vs 15)) = some 152 := tv_rg t15
  obtain ⟨t16, hk⟩ := List.forall_mem_cons.mp hk
  have t16 : tv_ok ta (0, 0, 66297, []) (n_v vs 16) := t16
  have k16 : 0 ≤ v_iv (n_v vs 16) ∧ v_iv (n_v vs 16) ≤ 66297 := tv_rng t16
  obtain ⟨t17, hk⟩ := List.forall_mem_cons.mp hk
  have t17 : tv_ok ta (0, 0, 24, []) (n_v vs 17) := t17
  have k17 : 0 ≤ v_iv (n_v vs 17) ∧ v_iv (n_v vs 17) ≤ 24 := tv_rng t17
  obtain ⟨t18, hk⟩ := List.forall_mem_cons.mp hk
  have t18 : tv_ok ta (0, 1, 1, []) (n_v vs 18) := t18
  have k18 : 1 ≤ v_iv (n_v vs 18) ∧ v_iv (n_v vs 18) ≤ 1 := tv_rng t18
  obtain ⟨t19, hk⟩ := List.forall_mem_cons.mp hk
  have t19 : tv_ok ta (0, 1, 24, []) (n_v vs 19) := t19
  have k19 : 1 ≤ v_iv (n_v vs 19) ∧ v_iv (n_v vs 19) ≤ 24 := tv_rng t19
  obtain ⟨t20, hk⟩ := List.forall_mem_cons.mp hk
  have t20 : tv_ok ta (0, 195, 195, []) (n_v vs 20) := t20
  have k20 : 195 ≤ v_iv (n_v vs 20) ∧ v_iv (n_v vs 20) ≤ 195 := tv_rng t20
  obtain ⟨t21, hk⟩ := List.forall_mem_cons.mp hk
  have t21 : tv_ok ta (0, 195, 66492, []) (n_v vs 21) := t21
  have k21 : 195 ≤ v_iv (n_v vs 21) ∧ v_iv (n_v vs 21) ≤ 66492 := tv_rng t21
  obtain ⟨t22, hk⟩ := List.forall_mem_cons.mp hk
  have t22 : tv_ok ta (0, 195, 66515, []) (n_v vs 22) := t22
  have k22 : 195 ≤ v_iv (n_v vs 22) ∧ v_iv (n_v vs 22) ≤ 66515 := tv_rng t22
  obtain ⟨t23, hk⟩ := List.forall_mem_cons.mp hk
  have t23 : tv_ok ta (0, 0, 2000, []) (n_v vs 23) := t23
  have k23 : 0 ≤ v_iv (n_v vs 23) ∧ v_iv (n_v vs 23) ≤ 2000 := tv_rng t23
  obtain ⟨t24, hk⟩ := List.forall_mem_cons.mp hk
  have t24 : tv_ok ta (0, 0, 2000, []) (n_v vs 24) := t24
  have k24 : 0 ≤ v_iv (n_v vs 24) ∧ v_iv (n_v vs 24) ≤ 2000 := tv_rng t24
  obtain ⟨t25, hk⟩ := List.forall_mem_cons.mp hk
  have t25 : tv_ok ta (0, 0, 8, []) (n_v vs 25) := t25
  have k25 : 0 ≤ v_iv (n_v vs 25) ∧ v_iv (n_v vs 25) ≤ 8 := tv_rng t25
  have hds : ∀ q ∈ ([(25, 23, -2000, 0), (22, 14, 195, 66492), (22, 21, 0, 23), (22, 16, 195, 218), (21, 16, 195, 195), (19, 17, 1, 1)] : List of_T), n_iv vs q.2.1 + q.2.2.1 ≤ n_iv vs q.1 ∧ n_iv vs q.1 ≤ n_iv vs q.2.1 + q.2.2.2 := hds
  obtain ⟨d0, hds⟩ := List.forall_mem_cons.mp hds
  have d0 : v_iv (n_v vs 23) + (-2000) ≤ v_iv (n_v vs 25) ∧ v_iv (n_v vs 25) ≤ v_iv (n_v vs 23) + 0 := d0
  obtain ⟨d1, hds⟩ := List.forall_mem_cons.mp hds
  have d1 : v_iv (n_v vs 14) + 195 ≤ v_iv (n_v vs 22) ∧ v_iv (n_v vs 22) ≤ v_iv (n_v vs 14) + 66492 := d1
  obtain ⟨d2, hds⟩ := List.forall_mem_cons.mp hds
  have d2 : v_iv (n_v vs 21) + 0 ≤ v_iv (n_v vs 22) ∧ v_iv (n_v vs 22) ≤ v_iv (n_v vs 21) + 23 := d2
  obtain ⟨d3, hds⟩ := List.forall_mem_cons.mp hds
  have d3 : v_iv (n_v vs 16) + 195 ≤ v_iv (n_v vs 22) ∧ v_iv (n_v vs 22) ≤ v_iv (n_v vs 16) + 218 := d3
  obtain ⟨d4, hds⟩ := List.forall_mem_cons.mp hds
  have d4 : v_iv (n_v vs 16) + 195 ≤ v_iv (n_v vs 21) ∧ v_iv (n_v vs 21) ≤ v_iv (n_v vs 16) + 195 := d4
  obtain ⟨d5, hds⟩ := List.forall_mem_cons.mp hds
  have d5 : v_iv (n_v vs 17) + 1 ≤ v_iv (n_v vs 19) ∧ v_iv (n_v vs 19) ≤ v_iv (n_v vs 17) + 1 := d5
  have hf : fc_ok [(20, [0, 0], [30, 0, 1, 1, 15, -1, 1, 11]), (20, [0], [50, 3, 0, 12, 11, 15, 2, 21, 4, 7, 1, 3, 2, 0, 12, 0, 1, 0, 3, 2, 0, 11, 4, 3, 2, 0, 15, 0, 8, 3, 7, 1, 3, 2, 0, 12, 0, 0, 0, 7, 4, 3, 2, 0, 15, 0, 1, 2, 0, 11]), (20, [3, 0], [30, 0, 1, 0, 0, -1, 1, 11]), (20, [0, 4], [50, 2, 0, 12, 11, 3, 7, 1, 3, 2, 0, 12, 0, 0, 0, 6, 4, 2, 1, 1, 0, 1, 2, 0, 11]), (20, [6, 0], [50, 1, 0, 1012, 4, 6, 1, 2, 1, 0, 0, 1, 1, 3, 2, 1, 12, 0, 1]), (20, [0], [30, -1, -1, 1, 8]), (100, [15, 22, 25], []), (2, [25, 23, 24], []), (9, [24, 0], [15]), (9, [23, 0], [11]), (1, [22, 21, 14], []), (1, [21, 16, 20], []), (9, [16, 0], [5]), (9, [15, 0], [2]), (20, [0, 0], [30, 0, 1, 1, 15, -1, 1, 11]), (20, [0], [50, 3, 0, 12, 11, 15, 2, 21, 4, 7, 1, 3, 2, 0, 12, 0, 1, 0, 3, 2, 0, 11, 4, 3, 2, 0, 15, 0, 8, 3, 7, 1, 3, 2, 0, 12, 0, 0, 0, 7, 4, 3, 2, 0, 15, 0, 1, 2, 0, 11]), (20, [3, 0], [30, 0, 1, 0, 0, -1, 1, 11]), (20, [0, 4], [50, 2, 0, 12, 11, 3, 7, 1, 3, 2, 0, 12, 0, 0, 0, 6, 4, 2, 1, 1, 0, 1, 2, 0, 11]), (20, [6, 0], [50, 1, 0, 1012, 4, 6, 1, 2, 1, 0, 0, 1, 1, 3, 2, 1, 12, 0, 1]), (20, [0], [30, -1, -1, 1, 8]), (100, [15, 16, 19], []), (1, [19, 17, 18], []), (10, [17, 15, 16], []), (20, [14, 0], [30, 0, 1, 0, 0, -1, 3, 2005000]), (20, [14, 0], [30, 0, -1, 0, 0, 1, 3, 2005000]), (8, [13], [5]), (9, [13, 0], [8]), (20, [9, 0], [30, 0, 1, 0, 0, -1, 3, 2005000]), (20, [9, 0], [30, 0, -1, 0, 0, 1, 3, 2005000]), (20, [0, 0], [30, 0, 1, 1, 15, -1, 1, 11]), (20, [0], [50, 3, 0, 12, 11, 15, 2, 21, 4, 7, 1, 3, 2, 0, 12, 0, 1, 0, 3, 2, 0, 11, 4, 3, 2, 0, 15, 0, 8, 3, 7, 1, 3, 2, 0, 12, 0, 0, 0, 7, 4, 3, 2, 0, 15, 0, 1, 2, 0, 11]), (20, [3, 0], [30, 0, 1, 0, 0, -1, 1, 11]), (20, [0, 4], [50, 2, 0, 12, 11, 3, 7, 1, 3, 2, 0, 12, 0, 0, 0, 6, 4, 2, 1, 1, 0, 1, 2, 0, 11]), (20, [1, 0], [50, 1, 1, 1005, 1002, 0, 6, 4, 2, 1, 0, 0, 1, 3, 1, 2, 4, 3, 2, 1, 5, 0, 2]), (20, [6, 0], [50, 1, 0, 1012, 4, 6, 1, 2, 1, 0, 0, 1, 1, 3, 2, 1, 12, 0, 1]), (20, [0], [30, -1, -1, 1, 8]), (102, [12], [0, 13008, 13009]), (7, [9, 10], [0]), (8, [6], [1])] ta ws vs := hf
  obtain ⟨f0, hf⟩ := fc_un (show (20 : Nat) < 100 from by decide) hf
  have f0 : 1 * w_fi ws (n_v vs 0) 15 + ((-1) * w_fi ws (n_v vs 0) 11 + 0) ≤ 0 := f0
  obtain ⟨f1, hf⟩ := fc_un (show (20 : Nat) < 100 from by decide) hf
  have f1 : ((w_fi ws (n_v vs 0) 12 = 1) → (w_fi ws (n_v vs 0) 11 ≤ (w_fi ws (n_v vs 0) 15 + 8))) ∧ ((w_fi ws (n_v vs 0) 12 = 0) ∨ ((w_fi ws (n_v vs 0) 15 + 1) ≤ w_fi ws (n_v vs 0) 11)) := f1
  obtain ⟨f2, hf⟩ := fc_un (show (20 : Nat) < 100 from by decide) hf
  have f2 : 1 * v_iv (n_v vs 3) + ((-1) * w_fi ws (n_v vs 0) 11 + 0) ≤ 0 := f2
  obtain ⟨f3, hf⟩ := fc_un (show (20 : Nat) < 100 from by decide) hf
  have f3 : (w_fi ws (n_v vs 0) 12 = 0) ∨ ((v_iv (n_v vs 4) + 1) ≤ w_fi ws (n_v vs 0) 11) := f3
  obtain ⟨f4, hf⟩ := fc_un (show (20 : Nat) < 100 from by decide) hf
  have f4 : (v_iv (n_v vs 6) = 1) → (w_fi ws (n_v vs 0) 12 = 1) := f4
  obtain ⟨f5, hf⟩ := fc_un (show (20 : Nat) < 100 from by decide) hf
  have f5 : (-1) * w_fi ws (n_v vs 0) 8 + 0 ≤ (-1) := f5
  obtain ⟨ta1, w1, le1, ⟨_, s1⟩, hf⟩ := fc_us (show ¬ (100 : Nat) < 100 from by decide) hf
  have s1 : (∀ b j, w_el ws b j = if b = v_ad (n_v vs 15) ∧ j = (v_iv (n_v vs 22)).toNat then v_iv (n_v vs 25) else w_el w1 b j) ∧ ∀ b k, w_fd ws b k = w_fd w1 b k := s1
  obtain ⟨f7, hf⟩ := fc_un (show (2 : Nat) < 100 from by decide) hf
  have f7 : v_iv (n_v vs 25) = v_iv (n_v vs 23) - v_iv (n_v vs 24) := f7
  obtain ⟨f8, hf⟩ := fc_un (show (9 : Nat) < 100 from by decide) hf
  have f8 : n_v vs 24 = w_fd w1 (v_ad (n_v vs 0)) 15 := f8
  obtain ⟨f9, hf⟩ := fc_un (show (9 : Nat) < 100 from by decide) hf
  have f9 : n_v vs 23 = w_fd w1 (v_ad (n_v vs 0)) 11 := f9
  obtain ⟨f10, hf⟩ := fc_un (show (1 : Nat) < 100 from by decide) hf
  have f10 : v_iv (n_v vs 22) = v_iv (n_v vs 21) + v_iv (n_v vs 14) := f10
  obtain ⟨f11, hf⟩ := fc_un (show (1 : Nat) < 100 from by decide) hf
  have f11 : v_iv (n_v vs 21) = v_iv (n_v vs 16) + v_iv (n_v vs 20) := f11
  obtain ⟨f12, hf⟩ := fc_un (show (9 : Nat) < 100 from by decide) hf
  have f12 : n_v vs 16 = w_fd w1 (v_ad (n_v vs 0)) 5 := f12
  obtain ⟨f13, hf⟩ := fc_un (show (9 : Nat) < 100 from by decide) hf
  have f13 : n_v vs 15 = w_fd w1 (v_ad (n_v vs 0)) 2 := f13
  obtain ⟨f14, hf⟩ := fc_un (show (20 : Nat) < 100 from by decide) hf
  have f14 : 1 * w_fi w1 (n_v vs 0) 15 + ((-1) * w_fi w1 (n_v vs 0) 11 + 0) ≤ 0 := f14
  obtain ⟨f15, hf⟩ := fc_un (show (20 : Nat) < 100 from by decide) hf
  have f15 : ((w_fi w1 (n_v vs 0) 12 = 1) → (w_fi w1 (n_v vs 0) 11 ≤ (w_fi w1 (n_v vs 0) 15 + 8))) ∧ ((w_fi w1 (n_v vs 0) 12 = 0) ∨ ((w_fi w1 (n_v vs 0) 15 + 1) ≤ w_fi w1 (n_v vs 0) 11)) := f15
  obtain ⟨f16, hf⟩ := fc_un (show (20 : Nat) < 100 from by decide) hf
  have f16 : 1 * v_iv (n_v vs 3) + ((-1) * w_fi w1 (n_v vs 0) 11 + 0) ≤ 0 := f16
  obtain ⟨f17, hf⟩ := fc_un (show (20 : Nat) < 100 from by decide) hf
  have f17 : (w_fi w1 (n_v vs 0) 12 = 0) ∨ ((v_iv (n_v vs 4) + 1) ≤ w_fi w1 (n_v vs 0) 11) := f17
  obtain ⟨f18, hf⟩ := fc_un (show (20 : Nat) < 100 from by decide) hf
  have f18 : (v_iv (n_v vs 6) = 1) → (w_fi w1 (n_v vs 0) 12 = 1) := f18
  obtain ⟨f19, hf⟩ := fc_un (show (20 : Nat) < 100 from by decide) hf
  have f19 : (-1) * w_fi w1 (n_v vs 0) 8 + 0 ≤ (-1) := f19
  obtain ⟨ta2, w2, le2, ⟨_, s2⟩, hf⟩ := fc_us (show ¬ (100 : Nat) < 100 from by decide) hf
  have s2 : (∀ b j, w_el w1 b j = if b = v_ad (n_v vs 15) ∧ j = (v_iv (n_v vs 16)).toNat then v_iv (n_v vs 19) else w_el w2 b j) ∧ ∀ b k, w_fd w1 b k = w_fd w2 b k := s2
  obtain ⟨f21, hf⟩ := fc_un (show (1 : Nat) < 100 from by decide) hf
  have f21 : v_iv (n_v vs 19) = v_iv (n_v vs 17) + v_iv (n_v vs 18) := f21
  obtain ⟨f22, hf⟩ := fc_un (show (10 : Nat) < 100 from by decide) hf
  have f22 : v_iv (n_v vs 17) = w_el w2 (v_ad (n_v vs 15)) (v_iv (n_v vs 16)).toNat := f22
  obtain ⟨f23, hf⟩ := fc_un (show (20 : Nat) < 100 from by decide) hf
  have f23 : 1 * v_iv (n_v vs 14) + ((-1) * w_el w2 (w_ar w2 (n_v vs 0) 2) (w_fi w2 (n_v vs 0) 5 + 0).toNat + 0) ≤ 0 := f23
  obtain ⟨f24, hf⟩ := fc_un (show (20 : Nat) < 100 from by decide) hf
  have f24 : (-1) * v_iv (n_v vs 14) + (1 * w_el w2 (w_ar w2 (n_v vs 0) 2) (w_fi w2 (n_v vs 0) 5 + 0).toNat + 0) ≤ 0 := f24
  obtain ⟨f25, hf⟩ := fc_un (show (8 : Nat) < 100 from by decide) hf
  have f25 : v_iv (n_v vs 13) ≤ 0 := f25
  obtain ⟨f26, hf⟩ := fc_un (show (9 : Nat) < 100 from by decide) hf
  have f26 : n_v vs 13 = w_fd w2 (v_ad (n_v vs 0)) 8 := f26
  obtain ⟨f27, hf⟩ := fc_un (show (20 : Nat) < 100 from by decide) hf
  have f27 : 1 * v_iv (n_v vs 9) + ((-1) * w_el w2 (w_ar w2 (n_v vs 0) 2) (w_fi w2 (n_v vs 0) 5 + 0).toNat + 0) ≤ 0 := f27
  obtain ⟨f28, hf⟩ := fc_un (show (20 : Nat) < 100 from by decide) hf
  have f28 : (-1) * v_iv (n_v vs 9) + (1 * w_el w2 (w_ar w2 (n_v vs 0) 2) (w_fi w2 (n_v vs 0) 5 + 0).toNat + 0) ≤ 0 := f28
  obtain ⟨f29, hf⟩ := fc_un (show (20 : Nat) < 100 from by decide) hf
  have f29 : 1 * w_fi w2 (n_v vs 0) 15 + ((-1) * w_fi w2 (n_v vs 0) 11 + 0) ≤ 0 := f29
  obtain ⟨f30, hf⟩ := fc_un (show (20 : Nat) < 100 from by decide) hf
  have f30 : ((w_fi w2 (n_v vs 0) 12 = 1) → (w_fi w2 (n_v vs 0) 11 ≤ (w_fi w2 (n_v vs 0) 15 + 8))) ∧ ((w_fi w2 (n_v vs 0) 12 = 0) ∨ ((w_fi w2 (n_v vs 0) 15 + 1) ≤ w_fi w2 (n_v vs 0) 11)) := f30
  obtain ⟨f31, hf⟩ := fc_un (show (20 : Nat) < 100 from by decide) hf
  have f31 : 1 * v_iv (n_v vs 3) + ((-1) * w_fi w2 (n_v vs 0) 11 + 0) ≤ 0 := f31
  obtain ⟨f32, hf⟩ := fc_un (show (20 : Nat) < 100 from by decide) hf
  have f32 : (w_fi w2 (n_v vs 0) 12 = 0) ∨ ((v_iv (n_v vs 4) + 1) ≤ w_fi w2 (n_v vs 0) 11) := f32
  obtain ⟨f33, hf⟩ := fc_un (show (20 : Nat) < 100 from by decide) hf
  have f33 : (v_iv (n_v vs 1) + 1) ≤ w_ei w2 (w_ar w2 (n_v vs 0) 2) ((w_fi w2 (n_v vs 0) 5 + 2)) := f33
  obtain ⟨f34, hf⟩ := fc_un (show (20 : Nat) < 100 from by decide) hf
  have f34 : (v_iv (n_v vs 6) = 1) → (w_fi w2 (n_v vs 0) 12 = 1) := f34
  obtain ⟨f35, hf⟩ := fc_un (show (20 : Nat) < 100 from by decide) hf
  have f35 : (-1) * w_fi w2 (n_v vs 0) 8 + 0 ≤ (-1) := f35
  obtain ⟨ta3, w3, le3, ⟨_, s3⟩, hf⟩ := fc_us (show ¬ (102 : Nat) < 100 from by decide) hf
  obtain ⟨f37, hf⟩ := fc_un (show (7 : Nat) < 100 from by decide) hf
  have f37 : v_iv (n_v vs 9) = v_iv (n_v vs 10) := f37
  obtain ⟨f38, hf⟩ := fc_un (show (8 : Nat) < 100 from by decide) hf
  have f38 : v_iv (n_v vs 6) ≠ 0 := f38
  have ar_0_2_1 : w_ar w1 (n_v vs 0) 2 = w_ar ws (n_v vs 0) 2 := by show v_ad (w_fd w1 _ _) = v_ad (w_fd ws _ _); rw [s1.2]
  have ar_0_2_2 : w_ar w2 (n_v vs 0) 2 = w_ar ws (n_v vs 0) 2 := by rw [← ar_0_2_1]; show v_ad (w_fd w2 _ _) = v_ad (w_fd w1 _ _); rw [s2.2]
  have cr_0_2 : ta (w_ar ws (n_v vs 0) 2) = some 152 := tv_rg (th_fd hD hth r0 (g := GG_150) rfl (k := 2) (t := (2, 0, 0, [152])) rfl rfl)
  have fi_0_5_1 : w_fi w1 (n_v vs 0) 5 = w_fi ws (n_v vs 0) 5 := by show v_iv (w_fd w1 _ _) = v_iv (w_fd ws _ _); rw [s1.2]
  have fi_0_5_2 : w_fi w2 (n_v vs 0) 5 = w_fi ws (n_v vs 0) 5 := by rw [← fi_0_5_1]; show v_iv (w_fd w2 _ _) = v_iv (w_fd w1 _ _); rw [s2.2]
  have ad_15 : v_ad (n_v vs 15) = w_ar ws (n_v vs 0) 2 := (congrArg v_ad f13).trans ar_0_2_1
  have g8 : v_iv (n_v vs 24) = w_fi w1 (n_v vs 0) 15 := congrArg v_iv f8
  have g9 : v_iv (n_v vs 23) = w_fi w1 (n_v vs 0) 11 := congrArg v_iv f9
  have g12 : v_iv (n_v vs 16) = w_fi w1 (n_v vs 0) 5 := congrArg v_iv f12
  rw [ad_15] at f22
  have h22 : v_iv (n_v vs 17) = w_ei w2 (w_ar ws (n_v vs 0) 2) (v_iv (n_v vs 16)) := f22
  rw [ar_0_2_2] at f23
  rw [fi_0_5_2] at f23
  rw [ar_0_2_2] at f24
  rw [fi_0_5_2] at f24
  have g26 : v_iv (n_v vs 13) = w_fi w2 (n_v vs 0) 8 := congrArg v_iv f26
  rw [ar_0_2_2] at f27
  rw [fi_0_5_2] at f27
  rw [ar_0_2_2] at f28
  rw [fi_0_5_2] at f28
  rw [ar_0_2_2] at f33
  have cg22_F5_0 : v_iv (n_v vs 16) = w_fi ws (n_v vs 0) 5 + 0 → w_el w2 (w_ar ws (n_v vs 0) 2) (v_iv (n_v vs 16)).toNat = w_el w2 (w_ar ws (n_v vs 0) 2) (w_fi ws (n_v vs 0) 5 + 0).toNat := fun h => by rw [h]
  have fe_0_5_1 : w_fi ws (n_v vs 0) 5 = w_fi w1 (n_v vs 0) 5 := congrArg v_iv (s1.2 _ _)
  have fe_0_8_1 : w_fi ws (n_v vs 0) 8 = w_fi w1 (n_v vs 0) 8 := congrArg v_iv (s1.2 _ _)
  have fe_0_11_1 : w_fi ws (n_v vs 0) 11 = w_fi w1 (n_v vs 0) 11 := congrArg v_iv (s1.2 _ _)
  have fe_0_12_1 : w_fi ws (n_v vs 0) 12 = w_fi w1 (n_v vs 0) 12 := congrArg v_iv (s1.2 _ _)
  have fe_0_15_1 : w_fi ws (n_v vs 0) 15 = w_fi w1 (n_v vs 0) 15 := congrArg v_iv (s1.2 _ _)
  first | (have ee_0_2_F5_0_1 : w_el ws (w_ar ws (n_v vs 0) 2) (w_fi ws (n_v vs 0) 5 + 0).toNat = w_el w1 (w_ar ws (n_v vs 0) 2) (w_fi ws (n_v vs 0) 5 + 0).toNat := by rw [s1.1, if_neg (fun e => absurd e.2 (by omega))]) | have ee_0_2_F5_0_1 : ((w_fi ws (n_v vs 0) 5 + 0).toNat = (v_iv (n_v vs 22)).toNat → w_el ws (w_ar ws (n_v vs 0) 2) (w_fi ws (n_v vs 0) 5 + 0).toNat = v_iv (n_v vs 25)) ∧ ((w_fi ws (n_v vs 0) 5 + 0).toNat ≠ (v_iv (n_v vs 22)).toNat → w_el ws (w_ar ws (n_v vs 0) 2) (w_fi ws (n_v vs 0) 5 + 0).toNat = w_el w1 (w_ar ws (n_v vs 0) 2) (w_fi ws (n_v vs 0) 5 + 0).toNat) := ⟨fun h => by rw [s1.1, if_pos ⟨ad_15.symm, h⟩], fun h => by rw [s1.1, if_neg (fun e => h e.2)]⟩
  have ee_0_2_16_1 : ((v_iv (n_v vs 16)).toNat = (v_iv (n_v vs 22)).toNat → w_el ws (w_ar ws (n_v vs 0) 2) (v_iv (n_v vs 16)).toNat = v_iv (n_v vs 25)) ∧ ((v_iv (n_v vs 16)).toNat ≠ (v_iv (n_v vs 22)).toNat → w_el ws (w_ar ws (n_v vs 0) 2) (v_iv (n_v vs 16)).toNat = w_el w1 (w_ar ws (n_v vs 0) 2) (v_iv (n_v vs 16)).toNat) := ⟨fun h => by rw [s1.1, if_pos ⟨ad_15.symm, h⟩], fun h => by rw [s1.1, if_neg (fun e => h e.2)]⟩
  have fe_0_5_2 : w_fi w1 (n_v vs 0) 5 = w_fi w2 (n_v vs 0) 5 := congrArg v_iv (s2.2 _ _)
  have fe_0_8_2 : w_fi w1 (n_v vs 0) 8 = w_fi w2 (n_v vs 0) 8 := congrArg v_iv (s2.2 _ _)
  have fe_0_11_2 : w_fi w1 (n_v vs 0) 11 = w_fi w2 (n_v vs 0) 11 := congrArg v_iv (s2.2 _ _)
  have fe_0_12_2 : w_fi w1 (n_v vs 0) 12 = w_fi w2 (n_v vs 0) 12 := congrArg v_iv (s2.2 _ _)
  have fe_0_15_2 : w_fi w1 (n_v vs 0) 15 = w_fi w2 (n_v vs 0) 15 := congrArg v_iv (s2.2 _ _)
  first | (have ee_0_2_F5_0_2 : w_el w1 (w_ar ws (n_v vs 0) 2) (w_fi ws (n_v vs 0) 5 + 0).toNat = w_el w2 (w_ar ws (n_v vs 0) 2) (w_fi ws (n_v vs 0) 5 + 0).toNat := by rw [s2.1, if_neg (fun e => absurd e.2 (by omega))]) | have ee_0_2_F5_0_2 : ((w_fi ws (n_v vs 0) 5 + 0).toNat = (v_iv (n_v vs 16)).toNat → w_el w1 (w_ar ws (n_v vs 0) 2) (w_fi ws (n_v vs 0) 5 + 0).toNat = v_iv (n_v vs 19)) ∧ ((w_fi ws (n_v vs 0) 5 + 0).toNat ≠ (v_iv (n_v vs 16)).toNat → w_el w1 (w_ar ws (n_v vs 0) 2) (w_fi ws (n_v vs 0) 5 + 0).toNat = w_el w2 (w_ar ws (n_v vs 0) 2) (w_fi ws (n_v vs 0) 5 + 0).toNat) := ⟨fun h => by rw [s2.1, if_pos ⟨ad_15.symm, h⟩], fun h => by rw [s2.1, if_neg (fun e => h e.2)]⟩
  have ee_0_2_16_2 : w_el w1 (w_ar ws (n_v vs 0) 2) (v_iv (n_v vs 16)).toNat = v_iv (n_v vs 19) := by rw [s2.1, if_pos ⟨ad_15.symm, rfl⟩]
  have br_0_2_F5_0_0 : w_ei ws (w_ar ws (n_v vs 0) 2) (w_fi ws (n_v vs 0) 5 + 0) = w_el ws (w_ar ws (n_v vs 0) 2) (w_fi ws (n_v vs 0) 5 + 0).toNat := rfl
  have br_0_2_F5_0_1 : w_ei w1 (w_ar ws (n_v vs 0) 2) (w_fi ws (n_v vs 0) 5 + 0) = w_el w1 (w_ar ws (n_v vs 0) 2) (w_fi ws (n_v vs 0) 5 + 0).toNat := rfl
  have br_0_2_F5_0_2 : w_ei w2 (w_ar ws (n_v vs 0) 2) (w_fi ws (n_v vs 0) 5 + 0) = w_el w2 (w_ar ws (n_v vs 0) 2) (w_fi ws (n_v vs 0) 5 + 0).toNat := rfl
  have br_0_2_16_0 : w_ei ws (w_ar ws (n_v vs 0) 2) (v_iv (n_v vs 16)) = w_el ws (w_ar ws (n_v vs 0) 2) (v_iv (n_v vs 16)).toNat := rfl
  have br_0_2_16_1 : w_ei w1 (w_ar ws (n_v vs 0) 2) (v_iv (n_v vs 16)) = w_el w1 (w_ar ws (n_v vs 0) 2) (v_iv (n_v vs 16)).toNat := rfl
  have br_0_2_16_2 : w_ei w2 (w_ar ws (n_v vs 0) 2) (v_iv (n_v vs 16)) = w_el w2 (w_ar ws (n_v vs 0) 2) (v_iv (n_v vs 16)).toNat := rfl
  have hE_0_2_1 : ∀ j : Int, 0 ≤ j → (j = v_iv (n_v vs 22) → w_ei ws (w_ar ws (n_v vs 0) 2) j = v_iv (n_v vs 25)) ∧ (j ≠ v_iv (n_v vs 22) → w_ei ws (w_ar ws (n_v vs 0) 2) j = w_ei w1 (w_ar ws (n_v vs 0) 2) j) := fun j hj => ⟨fun h => by unfold w_ei; rw [s1.1, if_pos ⟨ad_15.symm, by rw [h]⟩], fun h => by unfold w_ei; rw [s1.1, if_neg (fun e => h (by have := e.2; omega))]⟩
  have hE_0_2_2 : ∀ j : Int, 0 ≤ j → (j = v_iv (n_v vs 16) → w_ei w1 (w_ar ws (n_v vs 0) 2) j = v_iv (n_v vs 19)) ∧ (j ≠ v_iv (n_v vs 16) → w_ei w1 (w_ar ws (n_v vs 0) 2) j = w_ei w2 (w_ar ws (n_v vs 0) 2) j) := fun j hj => ⟨fun h => by unfold w_ei; rw [s2.1, if_pos ⟨ad_15.symm, by rw [h]⟩], fun h => by unfold w_ei; rw [s2.1, if_neg (fun e => h (by have := e.2; omega))]⟩
  have kz_0_8 : 0 ≤ w_fi ws (n_v vs 0) 8 ∧ w_fi ws (n_v vs 0) 8 ≤ 5 := tv_rng (th_fd hD hth r0 (g := GG_150) rfl (k := 8) (t := (0, 0, 5, [])) rfl rfl)
  have kz_0_11 : 0 ≤ w_fi ws (n_v vs 0) 11 ∧ w_fi ws (n_v vs 0) 11 ≤ 2000 := tv_rng (th_fd hD hth r0 (g := GG_150) rfl (k := 11) (t := (0, 0, 2000, [])) rfl rfl)
  have kz_0_12 : 0 ≤ w_fi ws (n_v vs 0) 12 ∧ w_fi ws (n_v vs 0) 12 ≤ 4 := tv_rng (th_fd hD hth r0 (g := GG_150) rfl (k := 12) (t := (0, 0, 4, [])) rfl rfl)
  have kz_0_15 : 0 ≤ w_fi ws (n_v vs 0) 15 ∧ w_fi ws (n_v vs 0) 15 ≤ 2000 := tv_rng (th_fd hD hth r0 (g := GG_150) rfl (k := 15) (t := (0, 0, 2000, [])) rfl rfl)
  first | have hJ0 : w_ei w2 (w_ar ws (n_v vs 0) 2) ((w_fi w2 (n_v vs 0) 5 + 2)) = w_ei w2 (w_ar ws (n_v vs 0) 2) ((w_fi ws (n_v vs 0) 5 + 2)) := congrArg _ (show ((w_fi w2 (n_v vs 0) 5 + 2) : Int) = (w_fi ws (n_v vs 0) 5 + 2) from by omega) | skip
  first | have hI1 := (hE_0_2_1 ((w_fi ws (n_v vs 0) 5 + 2)) (by omega)).2 (by omega) | have hI1 := (hE_0_2_1 ((w_fi ws (n_v vs 0) 5 + 2)) (by omega)).1 (by omega) | skip
  first | have hI2 := (hE_0_2_2 ((w_fi ws (n_v vs 0) 5 + 2)) (by omega)).2 (by omega) | have hI2 := (hE_0_2_2 ((w_fi ws (n_v vs 0) 5 + 2)) (by omega)).1 (by omega) | skip
  first | have hI3 := (hE_0_2_1 ((w_fi ws (n_v vs 0) 5 + 1)) (by omega)).2 (by omega) | have hI3 := (hE_0_2_1 ((w_fi ws (n_v vs 0) 5 + 1)) (by omega)).1 (by omega) | skip
  first | have hI4 := (hE_0_2_2 ((w_fi ws (n_v vs 0) 5 + 1)) (by omega)).2 (by omega) | have hI4 := (hE_0_2_2 ((w_fi ws (n_v vs 0) 5 + 1)) (by omega)).1 (by omega) | skip
  have nf0 : fc_1 (20, [4, 0], [30, -1, 1, 0, 0, -1, 1, 11]) ws (vs) := by
    refine ⟨fun n hn => ?_, ?_⟩
    · have hn : n ∈ [4, 0] := hn
      rw [hl]
      simp only [List.mem_cons, List.not_mem_nil, or_false] at hn
      show n < 27; omega
    · show 1 * v_iv (n_v vs 4) + ((-1) * w_fi ws (n_v vs 0) 11 + 0) ≤ (-1)
      omega
  have nf1 : fc_1 (20, [0], [50, 1, 0, 12, 1, 3, 2, 0, 12, 0, 1]) ws (vs) := by
    refine ⟨fun n hn => ?_, ?_⟩
    · have hn : n ∈ [0] := hn
      rw [hl]
      simp only [List.mem_cons, List.not_mem_nil, or_false] at hn
      show n < 27; omega
    · show w_fi ws (n_v vs 0) 12 = 1
      first | omega | grind
  have nf2 : fc_1 (20, [2, 0], [50, 1, 1, 1005, 1002, 3, 6, 0, 2, 1, 0, 0, -1, 0, 10, 3, 1, 2, 4, 3, 2, 1, 5, 0, 1, 0, 47]) ws (vs) := by
    refine ⟨fun n hn => ?_, ?_⟩
    · have hn : n ∈ [2, 0] := hn
      rw [hl]
      simp only [List.mem_cons, List.not_mem_nil, or_false] at hn
      show n < 27; omega
    · show (v_iv (n_v vs 2) ≤ (-1)) ∨ (w_ei ws (w_ar ws (n_v vs 0) 2) ((w_fi ws (n_v vs 0) 5 + 1)) ≤ 47)
      first | omega | grind
  have nf3 : fc_1 (20, [1, 0], [50, 1, 1, 1005, 1002, 0, 6, 4, 2, 1, 0, 0, 1, 3, 1, 2, 4, 3, 2, 1, 5, 0, 2]) ws (vs) := by
    refine ⟨fun n hn => ?_, ?_⟩
    · have hn : n ∈ [1, 0] := hn
      rw [hl]
      simp only [List.mem_cons, List.not_mem_nil, or_false] at hn
      show n < 27; omega
    · show (v_iv (n_v vs 1) + 1) ≤ w_ei ws (w_ar ws (n_v vs 0) 2) ((w_fi ws (n_v vs 0) 5 + 2))
      first | omega | grind
  have nf4 : fc_1 (24, [0, 0], []) ws (vs) := by
    refine ⟨fun n hn => ?_, ?_⟩
    · have hn : n ∈ [0, 0] := hn
      rw [hl]
      simp only [List.mem_cons, List.not_mem_nil, or_false] at hn
      show n < 27; omega
    · show n_v vs 0 = n_v vs 0
      first | rfl | simp only [true_and]
  have nf5 : fc_1 (24, [1, 1], []) ws (vs) := by
    refine ⟨fun n hn => ?_, ?_⟩
    · have hn : n ∈ [1, 1] := hn
      rw [hl]
      simp only [List.mem_cons, List.not_mem_nil, or_false] at hn
      show n < 27; omega
    · show n_v vs 1 = n_v vs 1
      first | rfl | simp only [true_and]
  have nf6 : fc_1 (24, [2, 2], []) ws (vs) := by
    refine ⟨fun n hn => ?_, ?_⟩
    · have hn : n ∈ [2, 2] := hn
      rw [hl]
      simp only [List.mem_cons, List.not_mem_nil, or_false] at hn
      show n < 27; omega
    · show n_v vs 2 = n_v vs 2
      first | rfl | simp only [true_and]
  refine ⟨(fun _ h => (by cases h)), [], trivial, ?_, (fun _ h => (by cases h))⟩
  rw [List.append_nil]
  exact List.forall_mem_cons.mpr ⟨⟨show (20 : Nat) < 100 from by decide, nf0⟩, List.forall_mem_cons.mpr ⟨⟨show (20 : Nat) < 100 from by decide, nf1⟩, List.forall_mem_cons.mpr ⟨⟨show (20 : Nat) < 100 from by decide, nf2⟩, List.forall_mem_cons.mpr ⟨⟨show (20 : Nat) < 100 from by decide, nf3⟩, List.forall_mem_cons.mpr ⟨⟨show (24 : Nat) < 100 from by decide, nf4⟩, List.forall_mem_cons.mpr ⟨⟨show (24 : Nat) < 100 from by decide, nf5⟩, List.forall_mem_cons.mpr ⟨⟨show (24 : Nat) < 100 from by decide, nf6⟩, (fun _ h => (by cases h))⟩⟩⟩⟩⟩⟩⟩
def o_Mo_met_4 : or_T := (121, 15, [(0, (2, 0, 0, [150])), (1, (0, 0, 7, [])), (2, (0, -1, 23, [])), (3, (0, 0, 2000, [])), (4, (0, 0, 2000, [])), (6, (0, 1, 1, [])), (9, (0, 24, 24, [])), (10, (0, 24, 24, [])), (13, (0, 1, 5, [])), (14, (0, -1, -1, []))], [(8, [13], [4]), (9, [13, 0], [8]), (20, [9, 0], [30, 0, 1, 0, 0, -1, 3, 2005000]), (20, [9, 0], [30, 0, -1, 0, 0, 1, 3, 2005000]), (20, [0, 0], [30, 0, 1, 1, 15, -1, 1, 11]), (20, [0], [50, 3, 0, 12, 11, 15, 2, 21, 4, 7, 1, 3, 2, 0, 12, 0, 1, 0, 3, 2, 0, 11, 4, 3, 2, 0, 15, 0, 8, 3, 7, 1, 3, 2, 0, 12, 0, 0, 0, 7, 4, 3, 2, 0, 15, 0, 1, 2, 0, 11]), (20, [3, 0], [30, 0, 1, 0, 0, -1, 1, 11]), (20, [0, 4], [50, 2, 0, 12, 11, 3, 7, 1, 3, 2, 0, 12, 0, 0, 0, 6, 4, 2, 1, 1, 0, 1, 2, 0, 11]), (20, [1, 0], [50, 1, 1, 1005, 1002, 0, 6, 4, 2, 1, 0, 0, 1, 3, 1, 2, 4, 3, 2, 1, 5, 0, 2]), (20, [6, 0], [50, 1, 0, 1012, 4, 6, 1, 2, 1, 0, 0, 1, 1, 3, 2, 1, 12, 0, 1]), (20, [0], [30, -1, -1, 1, 8]), (102, [12], [0, 13008, 13009]), (7, [9, 10], [0]), (8, [6], [1])], [], [], [(20, [0, 3], [50, 3, 0, 8, 12, 11, 3, 7, 0, 2, 0, 1, 2, 0, 8, 3, 7, 1, 3, 2, 0, 12, 0, 0, 0, 6, 4, 2, 1, 1, 0, 1, 2, 0, 11]), (20, [0, 4], [50, 2, 0, 8, 11, 3, 7, 0, 2, 0, 1, 2, 0, 8, 0, 6, 4, 2, 1, 1, 0, 1, 2, 0, 11]), (20, [0, 14], [31, 1, -1, -1, 1, 8, 0, -1, 0, 0]), (20, [0, 2], [50, 2, 1, 8, 5, 2, 3, 7, 0, 2, 0, 1, 2, 0, 8, 3, 6, 0, 2, 1, 1, 0, -1, 0, 10, 3, 0, 2, 4, 3, 2, 0, 5, 0, 1, 0, 47])], [], [])
theorem oo_Mo_met_4 {kA : Nat → ClassId} : or_ok kA GG o_Mo_met_4 := by
  intro A ta ws vs hD hth hl hk hds hf
  have hl : vs.length = 15 := hl
  have hk : ∀ q ∈ ([(0, (2, 0, 0, [150])), (1, (0, 0, 7, [])), (2, (0, -1, 23, [])), (3, (0, 0, 2000, [])), (4, (0, 0, 2000, [])), (6, (0, 1, 1, [])), (9, (0, 24, 24, [])), (10, (0, 24, 24, [])), (13, (0, 1, 5, [])), (14, (0, -1, -1, []))] : List (Nat × tv_T)), tv_ok ta q.2 (n_v vs q.1) := hk
  obtain ⟨t0, hk⟩ := List.forall_mem_cons.mp hk
  have t0 : tv_ok ta (2, 0, 0, [150]) (n_v vs 0) := t0
  have r0 : ta (v_ad (n_v vs 0)) = some 150 := tv_rg t0
  obtain ⟨t1, hk⟩ := List.forall_mem_cons.mp hk
  have t1 : tv_ok ta (0, 0, 7, []) (n_v vs 1) := t1
  have k1 : 0 ≤ v_iv (n_v vs 1) ∧ v_iv (n_v vs 1) ≤ 7 := tv_rng t1
  obtain ⟨t2, hk⟩ := List.forall_mem_cons.mp hk
  have t2 : tv_ok ta (0, -1, 23, []) (n_v vs 2) := t2
  have k2 : (-1) ≤ v_iv (n_v vs 2) ∧ v_iv (n_v vs 2) ≤ 23 := tv_rng t2
  obtain ⟨t3, hk⟩ := List.forall_mem_cons.mp hk
  have t3 : tv_ok ta (0, 0, 2000, []) (n_v vs 3) := t3
  have k3 : 0 ≤ v_iv (n_v vs 3) ∧ v_iv (n_v vs 3) ≤ 2000 := tv_rng t3
  obtain ⟨t4, hk⟩ := List.forall_mem_cons.mp hk
  have t4 : tv_ok ta (0, 0, 2000, []) (n_v vs 4) := t4
  have k4 : 0 ≤ v_iv (n_v vs 4) ∧ v_iv (n_v vs 4) ≤ 2000 := tv_rng t4
  obtain ⟨t6, hk⟩ := List.forall_mem_cons.mp hk
  have t6 : tv_ok ta (0, 1, 1, []) (n_v vs 6) := t6
  have k6 : 1 ≤ v_iv (n_v vs 6) ∧ v_iv (n_v vs 6) ≤ 1 := tv_rng t6
  obtain ⟨t9, hk⟩ := List.forall_mem_cons.mp hk
  have t9 : tv_ok ta (0, 24, 24, []) (n_v vs 9) := t9
  have k9 : 24 ≤ v_iv (n_v vs 9) ∧ v_iv (n_v vs 9) ≤ 24 := tv_rng t9
  obtain ⟨t10, hk⟩ := List.forall_mem_cons.mp hk
  have t10 : tv_ok ta (0, 24, 24, []) (n_v vs 10) := t10
  have k10 : 24 ≤ v_iv (n_v vs 10) ∧ v_iv (n_v vs 10) ≤ 24 := tv_rng t10
  obtain ⟨t13, hk⟩ := List.forall_mem_cons.mp hk
  have t13 : tv_ok ta (0, 1, 5, []) (n_v vs 13) := t13
  have k13 : 1 ≤ v_iv (n_v vs 13) ∧ v_iv (n_v vs 13) ≤ 5 := tv_rng t13
  obtain ⟨t14, hk⟩ := List.forall_mem_cons.mp hk
  have t14 : tv_ok ta (0, -1, -1, []) (n_v vs 14) := t14
  have k14 : (-1) ≤ v_iv (n_v vs 14) ∧ v_iv (n_v vs 14) ≤ (-1) := tv_rng t14
  have hf : fc_ok [(8, [13], [4]), (9, [13, 0], [8]), (20, [9, 0], [30, 0, 1, 0, 0, -1, 3, 2005000]), (20, [9, 0], [30, 0, -1, 0, 0, 1, 3, 2005000]), (20, [0, 0], [30, 0, 1, 1, 15, -1, 1, 11]), (20, [0], [50, 3, 0, 12, 11, 15, 2, 21, 4, 7, 1, 3, 2, 0, 12, 0, 1, 0, 3, 2, 0, 11, 4, 3, 2, 0, 15, 0, 8, 3, 7, 1, 3, 2, 0, 12, 0, 0, 0, 7, 4, 3, 2, 0, 15, 0, 1, 2, 0, 11]), (20, [3, 0], [30, 0, 1, 0, 0, -1, 1, 11]), (20, [0, 4], [50, 2, 0, 12, 11, 3, 7, 1, 3, 2, 0, 12, 0, 0, 0, 6, 4, 2, 1, 1, 0, 1, 2, 0, 11]), (20, [1, 0], [50, 1, 1, 1005, 1002, 0, 6, 4, 2, 1, 0, 0, 1, 3, 1, 2, 4, 3, 2, 1, 5, 0, 2]), (20, [6, 0], [50, 1, 0, 1012, 4, 6, 1, 2, 1, 0, 0, 1, 1, 3, 2, 1, 12, 0, 1]), (20, [0], [30, -1, -1, 1, 8]), (102, [12], [0, 13008, 13009]), (7, [9, 10], [0]), (8, [6], [1])] ta ws vs := hf
  obtain ⟨f0, hf⟩ := fc_un (show (8 : Nat) < 100 from by decide) hf
  have f0 : 0 < v_iv (n_v vs 13) := f0
  obtain ⟨f1, hf⟩ := fc_un (show (9 : Nat) < 100 from by decide) hf
  have f1 : n_v vs 13 = w_fd ws (v_ad (n_v vs 0)) 8 := f1
  obtain ⟨f2, hf⟩ := fc_un (show (20 : Nat) < 100 from by decide) hf
  have f2 : 1 * v_iv (n_v vs 9) + ((-1) * w_el ws (w_ar ws (n_v vs 0) 2) (w_fi ws (n_v vs 0) 5 + 0).toNat + 0) ≤ 0 := f2
  obtain ⟨f3, hf⟩ := fc_un (show (20 : Nat) < 100 from by decide) hf
  have f3 : (-1) * v_iv (n_v vs 9) + (1 * w_el ws (w_ar ws (n_v vs 0) 2) (w_fi ws (n_v vs 0) 5 + 0).toNat + 0) ≤ 0 := f3
  obtain ⟨f4, hf⟩ := fc_un (show (20 : Nat) < 100 from by decide) hf
  have f4 : 1 * w_fi ws (n_v vs 0) 15 + ((-1) * w_fi ws (n_v vs 0) 11 + 0) ≤ 0 := f4
  obtain ⟨f5, hf⟩ := fc_un (show (20 : Nat) < 100 from by decide) hf
  have f5 : ((w_fi ws (n_v vs 0) 12 = 1) → (w_fi ws (n_v vs 0) 11 ≤ (w_fi ws (n_v vs 0) 15 + 8))) ∧ ((w_fi ws (n_v vs 0) 12 = 0) ∨ ((w_fi ws (n_v vs 0) 15 + 1) ≤ w_fi ws (n_v vs 0) 11)) := f5
  obtain ⟨f6, hf⟩ := fc_un (show (20 : Nat) < 100 from by decide) hf
  have f6 : 1 * v_iv (n_v vs 3) + ((-1) * w_fi ws (n_v vs 0) 11 + 0) ≤ 0 := f6
  obtain ⟨f7, hf⟩ := fc_un (show (20 : Nat) < 100 from by decide) hf
  have f7 : (w_fi ws (n_v vs 0) 12 = 0) ∨ ((v_iv (n_v vs 4) + 1) ≤ w_fi ws (n_v vs 0) 11) := f7
  obtain ⟨f8, hf⟩ := fc_un (show (20 : Nat) < 100 from by decide) hf
  have f8 : (v_iv (n_v vs 1) + 1) ≤ w_ei ws (w_ar ws (n_v vs 0) 2) ((w_fi ws (n_v vs 0) 5 + 2)) := f8
  obtain ⟨f9, hf⟩ := fc_un (show (20 : Nat) < 100 from by decide) hf
  have f9 : (v_iv (n_v vs 6) = 1) → (w_fi ws (n_v vs 0) 12 = 1) := f9
  obtain ⟨f10, hf⟩ := fc_un (show (20 : Nat) < 100 from by decide) hf
  have f10 : (-1) * w_fi ws (n_v vs 0) 8 + 0 ≤ (-1) := f10
  obtain ⟨ta1, w1, le1, ⟨_, s1⟩, hf⟩ := fc_us (show ¬ (102 : Nat) < 100 from by decide) hf
  obtain ⟨f12, hf⟩ := fc_un (show (7 : Nat) < 100 from by decide) hf
  have f12 : v_iv (n_v vs 9) = v_iv (n_v vs 10) := f12
  obtain ⟨f13, hf⟩ := fc_un (show (8 : Nat) < 100 from by decide) hf
  have f13 : v_iv (n_v vs 6) ≠ 0 := f13
  have cr_0_2 : ta (w_ar ws (n_v vs 0) 2) = some 152 := tv_rg (th_fd hD hth r0 (g := GG_150) rfl (k := 2) (t := (2, 0, 0, [152])) rfl rfl)
  have g1 : v_iv (n_v vs 13) = w_fi ws (n_v vs 0) 8 := congrArg v_iv f1
  have br_0_2_F5_0_0 : w_ei ws (w_ar ws (n_v vs 0) 2) (w_fi ws (n_v vs 0) 5 + 0) = w_el ws (w_ar ws (n_v vs 0) 2) (w_fi ws (n_v vs 0) 5 + 0).toNat := rfl
  have kz_0_8 : 0 ≤ w_fi ws (n_v vs 0) 8 ∧ w_fi ws (n_v vs 0) 8 ≤ 5 := tv_rng (th_fd hD hth r0 (g := GG_150) rfl (k := 8) (t := (0, 0, 5, [])) rfl rfl)
  have kz_0_11 : 0 ≤ w_fi ws (n_v vs 0) 11 ∧ w_fi ws (n_v vs 0) 11 ≤ 2000 := tv_rng (th_fd hD hth r0 (g := GG_150) rfl (k := 11) (t := (0, 0, 2000, [])) rfl rfl)
  have kz_0_12 : 0 ≤ w_fi ws (n_v vs 0) 12 ∧ w_fi ws (n_v vs 0) 12 ≤ 4 := tv_rng (th_fd hD hth r0 (g := GG_150) rfl (k := 12) (t := (0, 0, 4, [])) rfl rfl)
  have kz_0_15 : 0 ≤ w_fi ws (n_v vs 0) 15 ∧ w_fi ws (n_v vs 0) 15 ≤ 2000 := tv_rng (th_fd hD hth r0 (g := GG_150) rfl (k := 15) (t := (0, 0, 2000, [])) rfl rfl)
  have nf0 : fc_1 (20, [0, 3], [50, 3, 0, 8, 12, 11, 3, 7, 0, 2, 0, 1, 2, 0, 8, 3, 7, 1, 3, 2, 0, 12, 0, 0, 0, 6, 4, 2, 1, 1, 0, 1, 2, 0, 11]) ws (vs) := by
    refine ⟨fun n hn => ?_, ?_⟩
    · have hn : n ∈ [0, 3] := hn
      rw [hl]
      simp only [List.mem_cons, List.not_mem_nil, or_false] at hn
      show n < 15; omega
    · show (1 ≤ w_fi ws (n_v vs 0) 8) ∨ ((w_fi ws (n_v vs 0) 12 = 0) ∨ ((v_iv (n_v vs 3) + 1) ≤ w_fi ws (n_v vs 0) 11))
      first | omega | grind
  have nf1 : fc_1 (20, [0, 4], [50, 2, 0, 8, 11, 3, 7, 0, 2, 0, 1, 2, 0, 8, 0, 6, 4, 2, 1, 1, 0, 1, 2, 0, 11]) ws (vs) := by
    refine ⟨fun n hn => ?_, ?_⟩
    · have hn : n ∈ [0, 4] := hn
      rw [hl]
      simp only [List.mem_cons, List.not_mem_nil, or_false] at hn
      show n < 15; omega
    · show (1 ≤ w_fi ws (n_v vs 0) 8) ∨ ((v_iv (n_v vs 4) + 1) ≤ w_fi ws (n_v vs 0) 11)
      first | omega | grind
  have nf2 : fc_1 (20, [0, 14], [31, 1, -1, -1, 1, 8, 0, -1, 0, 0]) ws (vs) := by
    refine ⟨fun n hn => ?_, ?_⟩
    · have hn : n ∈ [0, 14] := hn
      rw [hl]
      simp only [List.mem_cons, List.not_mem_nil, or_false] at hn
      show n < 15; omega
    · show ((-1) * w_fi ws (n_v vs 0) 8 + 0 ≤ (-1)) ∨ ((-1) * v_iv (n_v vs 14) + 0 ≤ 0)
      omega
  have nf3 : fc_1 (20, [0, 2], [50, 2, 1, 8, 5, 2, 3, 7, 0, 2, 0, 1, 2, 0, 8, 3, 6, 0, 2, 1, 1, 0, -1, 0, 10, 3, 0, 2, 4, 3, 2, 0, 5, 0, 1, 0, 47]) ws (vs) := by
    refine ⟨fun n hn => ?_, ?_⟩
    · have hn : n ∈ [0, 2] := hn
      rw [hl]
      simp only [List.mem_cons, List.not_mem_nil, or_false] at hn
      show n < 15; omega
    · show (1 ≤ w_fi ws (n_v vs 0) 8) ∨ ((v_iv (n_v vs 2) ≤ (-1)) ∨ (w_ei ws (w_ar ws (n_v vs 0) 2) ((w_fi ws (n_v vs 0) 5 + 1)) ≤ 47))
      first | omega | grind
  refine ⟨(fun _ h => (by cases h)), [], trivial, ?_, (fun _ h => (by cases h))⟩
  rw [List.append_nil]
  exact List.forall_mem_cons.mpr ⟨⟨show (20 : Nat) < 100 from by decide, nf0⟩, List.forall_mem_cons.mpr ⟨⟨show (20 : Nat) < 100 from by decide, nf1⟩, List.forall_mem_cons.mpr ⟨⟨show (20 : Nat) < 100 from by decide, nf2⟩, List.forall_mem_cons.mpr ⟨⟨show (20 : Nat) < 100 from by decide, nf3⟩, (fun _ h => (by cases h))⟩⟩⟩⟩
def o_Mo_met_5 : or_T := (130, 12, [(0, (2, 0, 0, [150])), (1, (0, 0, 7, [])), (3, (0, 0, 2000, [])), (4, (0, 0, 2000, [])), (6, (0, 1, 1, [])), (9, (0, 0, 23, [])), (10, (0, 24, 24, [])), (11, (0, 0, 24, []))], [(20, [11, 0], [30, 0, 1, 0, 0, -1, 3, 2005000]), (20, [11, 0], [30, 0, -1, 0, 0, 1, 3, 2005000]), (7, [9, 10], [1]), (20, [9, 0], [30, 0, 1, 0, 0, -1, 3, 2005000]), (20, [9, 0], [30, 0, -1, 0, 0, 1, 3, 2005000]), (8, [6], [1]), (20, [0, 0], [30, 0, 1, 1, 15, -1, 1, 11]), (20, [0], [50, 3, 0, 12, 11, 15, 2, 21, 4, 7, 1, 3, 2, 0, 12, 0, 1, 0, 3, 2, 0, 11, 4, 3, 2, 0, 15, 0, 8, 3, 7, 1, 3, 2, 0, 12, 0, 0, 0, 7, 4, 3, 2, 0, 15, 0, 1, 2, 0, 11]), (20, [3, 0], [30, 0, 1, 0, 0, -1, 1, 11]), (20, [0, 4], [50, 2, 0, 12, 11, 3, 7, 1, 3, 2, 0, 12, 0, 0, 0, 6, 4, 2, 1, 1, 0, 1, 2, 0, 11]), (20, [1, 0], [50, 1, 1, 1005, 1002, 0, 6, 4, 2, 1, 0, 0, 1, 3, 1, 2, 4, 3, 2, 1, 5, 0, 2]), (20, [6, 0], [50, 1, 0, 1012, 4, 6, 1, 2, 1, 0, 0, 1, 1, 3, 2, 1, 12, 0, 1])], [(11, (0, 0, 23, []))], [], [], [], [])
theorem oo_Mo_met_5 {kA : Nat → ClassId} : or_ok kA GG o_Mo_met_5 := by
  intro A ta ws vs hD hth hl hk hds hf
  have hl : vs.length = 12 := hl
  have hk : ∀ q ∈ ([(0, (2, 0, 0, [150])), (1, (0, 0, 7, [])), (3, (0, 0, 2000, [])), (4, (0, 0, 2000, [])), (6, (0, 1, 1, [])), (9, (0, 0, 23, [])), (10, (0, 24, 24, [])), (11, (0, 0, 24, []))] : List (Nat × tv_T)), tv_ok ta q.2 (n_v vs q.1) := hk
  obtain ⟨t0, hk⟩ := List.forall_mem_cons.mp hk
  have t0 : tv_ok ta (2, 0, 0, [150]) (n_v vs 0) := t0
  have r0 : ta (v_ad (n_v vs 0)) = some 150 := tv_rg t0
  obtain ⟨t1, hk⟩ := List.forall_mem_cons.mp hk
  have t1 : tv_ok ta (0, 0, 7, []) (n_v vs 1) := t1
  have k1 : 0 ≤ v_iv (n_v vs 1) ∧ v_iv (n_v vs 1) ≤ 7 := tv_rng t1
  obtain ⟨t3, hk⟩ := List.forall_mem_cons.mp hk
  have t3 : tv_ok ta (0, 0, 2000, []) (n_v vs 3) := t3
  have k3 : 0 ≤ v_iv (n_v vs 3) ∧ v_iv (n_v vs 3) ≤ 2000 := tv_rng t3
  obtain ⟨t4, hk⟩ := List.forall_mem_cons.mp hk
  have t4 : tv_ok ta (0, 0, 2000, []) (n_v vs 4) := t4
  have k4 : 0 ≤ v_iv (n_v vs 4) ∧ v_iv (n_v vs 4) ≤ 2000 := tv_rng t4
  obtain ⟨t6, hk⟩ := List.forall_mem_cons.mp hk
  have t6 : tv_ok ta (0, 1, 1, []) (n_v vs 6) := t6
  have k6 : 1 ≤ v_iv (n_v vs 6) ∧ v_iv (n_v vs 6) ≤ 1 := tv_rng t6
  obtain ⟨t9, hk⟩ := List.forall_mem_cons.mp hk
  have t9 : tv_ok ta (0, 0, 23, []) (n_v vs 9) := t9
  have k9 : 0 ≤ v_iv (n_v vs 9) ∧ v_iv (n_v vs 9) ≤ 23 := tv_rng t9
  obtain ⟨t10, hk⟩ := List.forall_mem_cons.mp hk
  have t10 : tv_ok ta (0, 24, 24, []) (n_v vs 10) := t10
  have k10 : 24 ≤ v_iv (n_v vs 10) ∧ v_iv (n_v vs 10) ≤ 24 := tv_rng t10
  obtain ⟨t11, hk⟩ := List.forall_mem_cons.mp hk
  have t11 : tv_ok ta (0, 0, 24, []) (n_v vs 11) := t11
  have k11 : 0 ≤ v_iv (n_v vs 11) ∧ v_iv (n_v vs 11) ≤ 24 := tv_rng t11
  have hf : fc_ok [(20, [11, 0], [30, 0, 1, 0, 0, -1, 3, 2005000]), (20, [11, 0], [30, 0, -1, 0, 0, 1, 3, 2005000]), (7, [9, 10], [1]), (20, [9, 0], [30, 0, 1, 0, 0, -1, 3, 2005000]), (20, [9, 0], [30, 0, -1, 0, 0, 1, 3, 2005000]), (8, [6], [1]), (20, [0, 0], [30, 0, 1, 1, 15, -1, 1, 11]), (20, [0], [50, 3, 0, 12, 11, 15, 2, 21, 4, 7, 1, 3, 2, 0, 12, 0, 1, 0, 3, 2, 0, 11, 4, 3, 2, 0, 15, 0, 8, 3, 7, 1, 3, 2, 0, 12, 0, 0, 0, 7, 4, 3, 2, 0, 15, 0, 1, 2, 0, 11]), (20, [3, 0], [30, 0, 1, 0, 0, -1, 1, 11]), (20, [0, 4], [50, 2, 0, 12, 11, 3, 7, 1, 3, 2, 0, 12, 0, 0, 0, 6, 4, 2, 1, 1, 0, 1, 2, 0, 11]), (20, [1, 0], [50, 1, 1, 1005, 1002, 0, 6, 4, 2, 1, 0, 0, 1, 3, 1, 2, 4, 3, 2, 1, 5, 0, 2]), (20, [6, 0], [50, 1, 0, 1012, 4, 6, 1, 2, 1, 0, 0, 1, 1, 3, 2, 1, 12, 0, 1])] ta ws vs := hf
  obtain ⟨f0, hf⟩ := fc_un (show (20 : Nat) < 100 from by decide) hf
  have f0 : 1 * v_iv (n_v vs 11) + ((-1) * w_el ws (w_ar ws (n_v vs 0) 2) (w_fi ws (n_v vs 0) 5 + 0).toNat + 0) ≤ 0 := f0
  obtain ⟨f1, hf⟩ := fc_un (show (20 : Nat) < 100 from by decide) hf
  have f1 : (-1) * v_iv (n_v vs 11) + (1 * w_el ws (w_ar ws (n_v vs 0) 2) (w_fi ws (n_v vs 0) 5 + 0).toNat + 0) ≤ 0 := f1
  obtain ⟨f2, hf⟩ := fc_un (show (7 : Nat) < 100 from by decide) hf
  have f2 : v_iv (n_v vs 9) ≠ v_iv (n_v vs 10) := f2
  obtain ⟨f3, hf⟩ := fc_un (show (20 : Nat) < 100 from by decide) hf
  have f3 : 1 * v_iv (n_v vs 9) + ((-1) * w_el ws (w_ar ws (n_v vs 0) 2) (w_fi ws (n_v vs 0) 5 + 0).toNat + 0) ≤ 0 := f3
  obtain ⟨f4, hf⟩ := fc_un (show (20 : Nat) < 100 from by decide) hf
  have f4 : (-1) * v_iv (n_v vs 9) + (1 * w_el ws (w_ar ws (n_v vs 0) 2) (w_fi ws (n_v vs 0) 5 + 0).toNat + 0) ≤ 0 := f4
  obtain ⟨f5, hf⟩ := fc_un (show (8 : Nat) < 100 from by decide) hf
  have f5 : v_iv (n_v vs 6) ≠ 0 := f5
  obtain ⟨f6, hf⟩ := fc_un (show (20 : Nat) < 100 from by decide) hf
  have f6 : 1 * w_fi ws (n_v vs 0) 15 + ((-1) * w_fi ws (n_v vs 0) 11 + 0) ≤ 0 := f6
  obtain ⟨f7, hf⟩ := fc_un (show (20 : Nat) < 100 from by decide) hf
  have f7 : ((w_fi ws (n_v vs 0) 12 = 1) → (w_fi ws (n_v vs 0) 11 ≤ (w_fi ws (n_v vs 0) 15 + 8))) ∧ ((w_fi ws (n_v vs 0) 12 = 0) ∨ ((w_fi ws (n_v vs 0) 15 + 1) ≤ w_fi ws (n_v vs 0) 11)) := f7
  obtain ⟨f8, hf⟩ := fc_un (show (20 : Nat) < 100 from by decide) hf
  have f8 : 1 * v_iv (n_v vs 3) + ((-1) * w_fi ws (n_v vs 0) 11 + 0) ≤ 0 := f8
  obtain ⟨f9, hf⟩ := fc_un (show (20 : Nat) < 100 from by decide) hf
  have f9 : (w_fi ws (n_v vs 0) 12 = 0) ∨ ((v_iv (n_v vs 4) + 1) ≤ w_fi ws (n_v vs 0) 11) := f9
  obtain ⟨f10, hf⟩ := fc_un (show (20 : Nat) < 100 from by decide) hf
  have f10 : (v_iv (n_v vs 1) + 1) ≤ w_ei ws (w_ar ws (n_v vs 0) 2) ((w_fi ws (n_v vs 0) 5 + 2)) := f10
  obtain ⟨f11, hf⟩ := fc_un (show (20 : Nat) < 100 from by decide) hf
  have f11 : (v_iv (n_v vs 6) = 1) → (w_fi ws (n_v vs 0) 12 = 1) := f11
  have cr_0_2 : ta (w_ar ws (n_v vs 0) 2) = some 152 := tv_rg (th_fd hD hth r0 (g := GG_150) rfl (k := 2) (t := (2, 0, 0, [152])) rfl rfl)
  have br_0_2_F5_0_0 : w_ei ws (w_ar ws (n_v vs 0) 2) (w_fi ws (n_v vs 0) 5 + 0) = w_el ws (w_ar ws (n_v vs 0) 2) (w_fi ws (n_v vs 0) 5 + 0).toNat := rfl
  have kz_0_11 : 0 ≤ w_fi ws (n_v vs 0) 11 ∧ w_fi ws (n_v vs 0) 11 ≤ 2000 := tv_rng (th_fd hD hth r0 (g := GG_150) rfl (k := 11) (t := (0, 0, 2000, [])) rfl rfl)
  have kz_0_12 : 0 ≤ w_fi ws (n_v vs 0) 12 ∧ w_fi ws (n_v vs 0) 12 ≤ 4 := tv_rng (th_fd hD hth r0 (g := GG_150) rfl (k := 12) (t := (0, 0, 4, [])) rfl rfl)
  have kz_0_15 : 0 ≤ w_fi ws (n_v vs 0) 15 ∧ w_fi ws (n_v vs 0) 15 ≤ 2000 := tv_rng (th_fd hD hth r0 (g := GG_150) rfl (k := 15) (t := (0, 0, 2000, [])) rfl rfl)
  have rf11 : tv_ok ta (0, 0, 23, []) (n_v vs 11) := tv_in t11 (by first | omega | grind) (by first | omega | grind)
  refine ⟨List.forall_mem_cons.mpr ⟨rf11, (fun _ h => (by cases h))⟩, [], trivial, ?_, (fun _ h => (by cases h))⟩
  rw [List.append_nil]
  exact (fun _ h => (by cases h))
def o_Mo_met_6 : or_T := (143, 17, [(0, (2, 0, 0, [150])), (1, (0, 0, 7, [])), (3, (0, 0, 2000, [])), (4, (0, 0, 2000, [])), (6, (0, 1, 1, [])), (9, (0, 0, 23, [])), (10, (0, 24, 24, [])), (11, (0, 0, 23, [])), (12, (2, 0, 0, [152])), (13, (0, 0, 66297, [])), (14, (0, 0, 24, [])), (15, (0, 1, 1, [])), (16, (0, 1, 25, []))], [(1, [16, 14, 15], []), (10, [14, 12, 13], []), (9, [13, 0], [5]), (9, [12, 0], [2]), (20, [11, 0], [30, 0, 1, 0, 0, -1, 3, 2005000]), (20, [11, 0], [30, 0, -1, 0, 0, 1, 3, 2005000]), (7, [9, 10], [1]), (20, [9, 0], [30, 0, 1, 0, 0, -1, 3, 2005000]), (20, [9, 0], [30, 0, -1, 0, 0, 1, 3, 2005000]), (8, [6], [1]), (20, [0, 0], [30, 0, 1, 1, 15, -1, 1, 11]), (20, [0], [50, 3, 0, 12, 11, 15, 2, 21, 4, 7, 1, 3, 2, 0, 12, 0, 1, 0, 3, 2, 0, 11, 4, 3, 2, 0, 15, 0, 8, 3, 7, 1, 3, 2, 0, 12, 0, 0, 0, 7, 4, 3, 2, 0, 15, 0, 1, 2, 0, 11]), (20, [3, 0], [30, 0, 1, 0, 0, -1, 1, 11]), (20, [0, 4], [50, 2, 0, 12, 11, 3, 7, 1, 3, 2, 0, 12, 0, 0, 0, 6, 4, 2, 1, 1, 0, 1, 2, 0, 11]), (20, [1, 0], [50, 1, 1, 1005, 1002, 0, 6, 4, 2, 1, 0, 0, 1, 3, 1, 2, 4, 3, 2, 1, 5, 0, 2]), (20, [6, 0], [50, 1, 0, 1012, 4, 6, 1, 2, 1, 0, 0, 1, 1, 3, 2, 1, 12, 0, 1])], [(16, (0, 1, 24, []))], [], [], [], [(16, 14, 1, 1)])
theorem oo_Mo_met_6 {kA : Nat → ClassId} : or_ok kA GG o_Mo_met_6 := by
  intro A ta ws vs hD hth hl hk hds hf
  have hl : vs.length = 17 := hl
  have hk : ∀ q ∈ ([(0, (2, 0, 0, [150])), (1, (0, 0, 7, [])), (3, (0, 0, 2000, [])), (4, (0, 0, 2000, [])), (6, (0, 1, 1, [])), (9, (0, 0, 23, [])), (10, (0, 24, 24, [])), (11, (0, 0, 23, [])), (12, (2, 0, 0, [152])), (13, (0, 0, 66297, [])), (14, (0, 0, 24, [])), (15, (0, 1, 1, [])), (16, (0, 1, 25, []))] : List (Nat × tv_T)), tv_ok ta q.2 (n_v vs q.1) := hk
  obtain ⟨t0, hk⟩ := List.forall_mem_cons.mp hk
  have t0 : tv_ok ta (2, 0, 0, [150]) (n_v vs 0) := t0
  have r0 : ta (v_ad (n_v vs 0)) = some 150 := tv_rg t0
  obtain ⟨t1, hk⟩ := List.forall_mem_cons.mp hk
  have t1 : tv_ok ta (0, 0, 7, []) (n_v vs 1) := t1
  have k1 : 0 ≤ v_iv (n_v vs 1) ∧ v_iv (n_v vs 1) ≤ 7 := tv_rng t1
  obtain ⟨t3, hk⟩ := List.forall_mem_cons.mp hk
  have t3 : tv_ok ta (0, 0, 2000, []) (n_v vs 3) := t3
  have k3 : 0 ≤ v_iv (n_v vs 3) ∧ v_iv (n_v vs 3) ≤ 2000 := tv_rng t3
  obtain ⟨t4, hk⟩ := List.forall_mem_cons.mp hk
  have t4 : tv_ok ta (0, 0, 2000, []) (n_v vs 4) := t4
  have k4 : 0 ≤ v_iv (n_v vs 4) ∧ v_iv (n_v vs 4) ≤ 2000 := tv_rng t4
  obtain ⟨t6, hk⟩ := List.forall_mem_cons.mp hk
  have t6 : tv_ok ta (0, 1, 1, []) (n_v vs 6) := t6
  have k6 : 1 ≤ v_iv (n_v vs 6) ∧ v_iv (n_v vs 6) ≤ 1 := tv_rng t6
  obtain ⟨t9, hk⟩ := List.forall_mem_cons.mp hk
  have t9 : tv_ok ta (0, 0, 23, []) (n_v vs 9) := t9
  have k9 : 0 ≤ v_iv (n_v vs 9) ∧ v_iv (n_v vs 9) ≤ 23 := tv_rng t9
  obtain ⟨t10, hk⟩ := List.forall_mem_cons.mp hk
  have t10 : tv_ok ta (0, 24, 24, []) (n_v vs 10) := t10
  have k10 : 24 ≤ v_iv (n_v vs 10) ∧ v_iv (n_v vs 10) ≤ 24 := tv_rng t10
  obtain ⟨t11, hk⟩ := List.forall_mem_cons.mp hk
  have t11 : tv_ok ta (0, 0, 23, []) (n_v vs 11) := t11
  have k11 : 0 ≤ v_iv (n_v vs 11) ∧ v_iv (n_v vs 11) ≤ 23 := tv_rng t11
  obtain ⟨t12, hk⟩ := List.forall_mem_cons.mp hk
  have t12 : tv_ok ta (2, 0, 0, [152]) (n_v vs 12) := t12
  have r12 : ta (v_ad (n_v vs 12)) = some 152 := tv_rg t12
  obtain ⟨t13, hk⟩ := List.forall_mem_cons.mp hk
  have t13 : tv_ok ta (0, 0, 66297, []) (n_v vs 13) := t13
  have k13 : 0 ≤ v_iv (n_v vs 13) ∧ v_iv (n_v vs 13) ≤ 66297 := tv_rng t13
  obtain ⟨t14, hk⟩ := List.forall_mem_cons.mp hk
  have t14 : tv_ok ta (0, 0, 24, []) (n_v vs 14) := t14
  have k14 : 0 ≤ v_iv (n_v vs 14) ∧ v_iv (n_v vs 14) ≤ 24 := tv_rng t14
  obtain ⟨t15, hk⟩ := List.forall_mem_cons.mp hk
  have t15 : tv_ok ta (0, 1, 1, []) (n_v vs 15) := t15
  have k15 : 1 ≤ v_iv (n_v vs 15) ∧ v_iv (n_v vs 15) ≤ 1 := tv_rng t15
  obtain ⟨t16, hk⟩ := List.forall_mem_cons.mp hk
  have t16 : tv_ok ta (0, 1, 25, []) (n_v vs 16) := t16
  have k16 : 1 ≤ v_iv (n_v vs 16) ∧ v_iv (n_v vs 16) ≤ 25 := tv_rng t16
  have hds : ∀ q ∈ ([(16, 14, 1, 1)] : List of_T), n_iv vs q.2.1 + q.2.2.1 ≤ n_iv vs q.1 ∧ n_iv vs q.1 ≤ n_iv vs q.2.1 + q.2.2.2 := hds
  obtain ⟨d0, hds⟩ := List.forall_mem_cons.mp hds
  have d0 : v_iv (n_v vs 14) + 1 ≤ v_iv (n_v vs 16) ∧ v_iv (n_v vs 16) ≤ v_iv (n_v vs 14) + 1 := d0
  have hf : fc_ok [(1, [16, 14, 15], []), (10, [14, 12, 13], []), (9, [13, 0], [5]), (9, [12, 0], [2]), (20, [11, 0], [30, 0, 1, 0, 0, -1, 3, 2005000]), (20, [11, 0], [30, 0, -1, 0, 0, 1, 3, 2005000]), (7, [9, 10], [1]), (20, [9, 0], [30, 0, 1, 0, 0, -1, 3, 2005000]), (20, [9, 0], [30, 0, -1, 0, 0, 1, 3, 2005000]), (8, [6], [1]), (20, [0, 0], [30, 0, 1, 1, 15, -1, 1, 11]), (20, [0], [50, 3, 0, 12, 11, 15, 2, 21, 4, 7, 1, 3, 2, 0, 12, 0, 1, 0, 3, 2, 0, 11, 4, 3, 2, 0, 15, 0, 8, 3, 7, 1, 3, 2, 0, 12, 0, 0, 0, 7, 4, 3, 2, 0, 15, 0, 1, 2, 0, 11]), (20, [3, 0], [30, 0, 1, 0, 0, -1, 1, 11]), (20, [0, 4], [50, 2, 0, 12, 11, 3, 7, 1, 3, 2, 0, 12, 0, 0, 0, 6, 4, 2, 1, 1, 0, 1, 2, 0, 11]), (20, [1, 0], [50, 1, 1, 1005, 1002, 0, 6, 4, 2, 1, 0, 0, 1, 3, 1, 2, 4, 3, 2, 1, 5, 0, 2]), (20, [6, 0], [50, 1, 0, 1012, 4, 6, 1, 2, 1, 0, 0, 1, 1, 3, 2, 1, 12, 0, 1])] ta ws vs := hf
  obtain ⟨f0, hf⟩ := fc_un (show (1 : Nat) < 100 from by decide) hf
  have f0 : v_iv (n_v vs 16) = v_iv (n_v vs 14) + v_iv (n_v vs 15) := f0
  obtain ⟨f1, hf⟩ := fc_un (show (10 : Nat) < 100 from by decide) hf
  have f1 : v_iv (n_v vs 14) = w_el ws (v_ad (n_v vs 12)) (v_iv (n_v vs 13)).toNat := f1
  obtain ⟨f2, hf⟩ := fc_un (show (9 : Nat) < 100 from by decide) hf
  have f2 : n_v vs 13 = w_fd ws (v_ad (n_v vs 0)) 5 := f2
  obtain ⟨f3, hf⟩ := fc_un (show (9 : Nat) < 100 from by decide) hf
  have f3 : n_v vs 12 = w_fd ws (v_ad (n_v vs 0)) 2 := f3
  obtain ⟨f4, hf⟩ := fc_un (show (20 : Nat) < 100 from by decide) hf
  have f4 : 1 * v_iv (n_v vs 11) + ((-1) * w_el ws (w_ar ws (n_v vs 0) 2) (w_fi ws (n_v vs 0) 5 + 0).toNat + 0) ≤ 0 := f4
  obtain ⟨f5, hf⟩ := fc_un (show (20 : Nat) < 100 from by decide) hf
  have f5 : (-1) * v_iv (n_v vs 11) + (1 * w_el ws (w_ar ws (n_v vs 0) 2) (w_fi ws (n_v vs 0) 5 + 0).toNat + 0) ≤ 0 := f5
  obtain ⟨f6, hf⟩ := fc_un (show (7 : Nat) < 100 from by decide) hf
  have f6 : v_iv (n_v vs 9) ≠ v_iv (n_v vs 10) := f6
  obtain ⟨f7, hf⟩ := fc_un (show (20 : Nat) < 100 from by decide) hf
  have f7 : 1 * v_iv (n_v vs 9) + ((-1) * w_el ws (w_ar ws (n_v vs 0) 2) (w_fi ws (n_v vs 0) 5 + 0).toNat + 0) ≤ 0 := f7
  obtain ⟨f8, hf⟩ := fc_un (show (20 : Nat) < 100 from by decide) hf
  have f8 : (-1) * v_iv (n_v vs 9) + (1 * w_el ws (w_ar ws (n_v vs 0) 2) (w_fi ws (n_v vs 0) 5 + 0).toNat + 0) ≤ 0 := f8
  obtain ⟨f9, hf⟩ := fc_un (show (8 : Nat) < 100 from by decide) hf
  have f9 : v_iv (n_v vs 6) ≠ 0 := f9
  obtain ⟨f10, hf⟩ := fc_un (show (20 : Nat) < 100 from by decide) hf
  have f10 : 1 * w_fi ws (n_v vs 0) 15 + ((-1) * w_fi ws (n_v vs 0) 11 + 0) ≤ 0 := f10
  obtain ⟨f11, hf⟩ := fc_un (show (20 : Nat) < 100 from by decide) hf
  have f11 : ((w_fi ws (n_v vs 0) 12 = 1) → (w_fi ws (n_v vs 0) 11 ≤ (w_fi ws (n_v vs 0) 15 + 8))) ∧ ((w_fi ws (n_v vs 0) 12 = 0) ∨ ((w_fi ws (n_v vs 0) 15 + 1) ≤ w_fi ws (n_v vs 0) 11)) := f11
  obtain ⟨f12, hf⟩ := fc_un (show (20 : Nat) < 100 from by decide) hf
  have f12 : 1 * v_iv (n_v vs 3) + ((-1) * w_fi ws (n_v vs 0) 11 + 0) ≤ 0 := f12
  obtain ⟨f13, hf⟩ := fc_un (show (20 : Nat) < 100 from by decide) hf
  have f13 : (w_fi ws (n_v vs 0) 12 = 0) ∨ ((v_iv (n_v vs 4) + 1) ≤ w_fi ws (n_v vs 0) 11) := f13
  obtain ⟨f14, hf⟩ := fc_un (show (20 : Nat) < 100 from by decide) hf
  have f14 : (v_iv (n_v vs 1) + 1) ≤ w_ei ws (w_ar ws (n_v vs 0) 2) ((w_fi ws (n_v vs 0) 5 + 2)) := f14
  obtain ⟨f15, hf⟩ := fc_un (show (20 : Nat) < 100 from by decide) hf
  have f15 : (v_iv (n_v vs 6) = 1) → (w_fi ws (n_v vs 0) 12 = 1) := f15
  have cr_0_2 : ta (w_ar ws (n_v vs 0) 2) = some 152 := tv_rg (th_fd hD hth r0 (g := GG_150) rfl (k := 2) (t := (2, 0, 0, [152])) rfl rfl)
  have ad_12 : v_ad (n_v vs 12) = w_ar ws (n_v vs 0) 2 := congrArg v_ad f3
  rw [ad_12] at f1
  have h1 : v_iv (n_v vs 14) = w_ei ws (w_ar ws (n_v vs 0) 2) (v_iv (n_v vs 13)) := f1
  have g2 : v_iv (n_v vs 13) = w_fi ws (n_v vs 0) 5 := congrArg v_iv f2
  have cg1_F5_0 : v_iv (n_v vs 13) = w_fi ws (n_v vs 0) 5 + 0 → w_el ws (w_ar ws (n_v vs 0) 2) (v_iv (n_v vs 13)).toNat = w_el ws (w_ar ws (n_v vs 0) 2) (w_fi ws (n_v vs 0) 5 + 0).toNat := fun h => by rw [h]
  have br_0_2_F5_0_0 : w_ei ws (w_ar ws (n_v vs 0) 2) (w_fi ws (n_v vs 0) 5 + 0) = w_el ws (w_ar ws (n_v vs 0) 2) (w_fi ws (n_v vs 0) 5 + 0).toNat := rfl
  have br_0_2_13_0 : w_ei ws (w_ar ws (n_v vs 0) 2) (v_iv (n_v vs 13)) = w_el ws (w_ar ws (n_v vs 0) 2) (v_iv (n_v vs 13)).toNat := rfl
  have kz_0_11 : 0 ≤ w_fi ws (n_v vs 0) 11 ∧ w_fi ws (n_v vs 0) 11 ≤ 2000 := tv_rng (th_fd hD hth r0 (g := GG_150) rfl (k := 11) (t := (0, 0, 2000, [])) rfl rfl)
  have kz_0_12 : 0 ≤ w_fi ws (n_v vs 0) 12 ∧ w_fi ws (n_v vs 0) 12 ≤ 4 := tv_rng (th_fd hD hth r0 (g := GG_150) rfl (k := 12) (t := (0, 0, 4, [])) rfl rfl)
  have kz_0_15 : 0 ≤ w_fi ws (n_v vs 0) 15 ∧ w_fi ws (n_v vs 0) 15 ≤ 2000 := tv_rng (th_fd hD hth r0 (g := GG_150) rfl (k := 15) (t := (0, 0, 2000, [])) rfl rfl)
  have rf16 : tv_ok ta (0, 1, 24, []) (n_v vs 16) := tv_in t16 (by first | omega | grind) (by first | omega | grind)
  refine ⟨List.forall_mem_cons.mpr ⟨rf16, (fun _ h => (by cases h))⟩, [], trivial, ?_, (fun _ h => (by cases h))⟩
  rw [List.append_nil]
  exact (fun _ h => (by cases h))
def o_Mo_met_7 : or_T := (167, 23, [(0, (2, 0, 0, [150])), (1, (0, 0, 7, [])), (3, (0, 0, 2000, [])), (4, (0, 0, 2000, [])), (6, (0, 1, 1, [])), (9, (0, 0, 23, [])), (10, (0, 24, 24, [])), (11, (0, 0, 23, [])), (12, (2, 0, 0, [152])), (13, (0, 0, 66297, [])), (14, (0, 0, 24, [])), (15, (0, 1, 1, [])), (16, (0, 1, 24, [])), (20, (0, 0, 2000, [])), (21, (0, 0, 2000, [])), (22, (0, -2000, 2000, []))], [(2, [22, 20, 21], []), (9, [21, 0], [15]), (9, [20, 0], [11]), (9, [13, 0], [5]), (9, [12, 0], [2]), (20, [0, 0], [30, 0, 1, 1, 15, -1, 1, 11]), (20, [0], [50, 3, 0, 12, 11, 15, 2, 21, 4, 7, 1, 3, 2, 0, 12, 0, 1, 0, 3, 2, 0, 11, 4, 3, 2, 0, 15, 0, 8, 3, 7, 1, 3, 2, 0, 12, 0, 0, 0, 7, 4, 3, 2, 0, 15, 0, 1, 2, 0, 11]), (20, [3, 0], [30, 0, 1, 0, 0, -1, 1, 11]), (20, [0, 4], [50, 2, 0, 12, 11, 3, 7, 1, 3, 2, 0, 12, 0, 0, 0, 6, 4, 2, 1, 1, 0, 1, 2, 0, 11]), (20, [6, 0], [50, 1, 0, 1012, 4, 6, 1, 2, 1, 0, 0, 1, 1, 3, 2, 1, 12, 0, 1]), (100, [12, 13, 16], []), (1, [16, 14, 15], []), (10, [14, 12, 13], []), (20, [11, 0], [30, 0, 1, 0, 0, -1, 3, 2005000]), (20, [11, 0], [30, 0, -1, 0, 0, 1, 3, 2005000]), (7, [9, 10], [1]), (20, [9, 0], [30, 0, 1, 0, 0, -1, 3, 2005000]), (20, [9, 0], [30, 0, -1, 0, 0, 1, 3, 2005000]), (8, [6], [1]), (20, [0, 0], [30, 0, 1, 1, 15, -1, 1, 11]), (20, [0], [50, 3, 0, 12, 11, 15, 2, 21, 4, 7, 1, 3, 2, 0, 12, 0, 1, 0, 3, 2, 0, 11, 4, 3, 2, 0, 15, 0, 8, 3, 7, 1, 3, 2, 0, 12, 0, 0, 0, 7, 4, 3, 2, 0, 15, 0, 1, 2, 0, 11]), (20, [3, 0], [30, 0, 1, 0, 0, -1, 1, 11]), (20, [0, 4], [50, 2, 0, 12, 11, 3, 7, 1, 3, 2, 0, 12, 0, 0, 0, 6, 4, 2, 1, 1, 0, 1, 2, 0, 11]), (20, [1, 0], [50, 1, 1, 1005, 1002, 0, 6, 4, 2, 1, 0, 0, 1, 3, 1, 2, 4, 3, 2, 1, 5, 0, 2]), (20, [6, 0], [50, 1, 0, 1012, 4, 6, 1, 2, 1, 0, 0, 1, 1, 3, 2, 1, 12, 0, 1])], [(22, (0, 0, 8, []))], [], [], [], [(22, 20, -2000, 0), (16, 14, 1, 1)])
theorem oo_Mo_met_7 {kA : Nat → ClassId} : or_ok kA GG o_Mo_met_7 := by
  intro A ta ws vs hD hth hl hk hds hf
  have hl : vs.length = 23 := hl
  have hk : ∀ q ∈ ([(0, (2, 0, 0, [150])), (1, (0, 0, 7, [])), (3, (0, 0, 2000, [])), (4, (0, 0, 2000, [])), (6, (0, 1, 1, [])), (9, (0, 0, 23, [])), (10, (0, 24, 24, [])), (11, (0, 0, 23, [])), (12, (2, 0, 0, [152])), (13, (0, 0, 66297, [])), (14, (0, 0, 24, [])), (15, (0, 1, 1, [])), (16, (0, 1, 24, [])), (20, (0, 0, 2000, [])), (21, (0, 0, 2000, [])), (22, (0, -2000, 2000, []))] : List (Nat × tv_T)), tv_ok ta q.2 (n_v vs q.1) := hk
  obtain ⟨t0, hk⟩ := List.forall_mem_cons.mp hk
  have t0 : tv_ok ta (2, 0, 0, [150]) (n_v vs 0) := t0
  have r0 : ta (v_ad (n_v vs 0)) = some 150 := tv_rg t0
  obtain ⟨t1, hk⟩ := List.forall_mem_cons.mp hk
  have t1 : tv_ok ta (0, 0, 7, []) (n_v vs 1) := t1
  have k1 : 0 ≤ v_iv (n_v vs 1) ∧ v_iv (n_v vs 1) ≤ 7 := tv_rng t1
  obtain ⟨t3, hk⟩ := List.forall_mem_cons.mp hk
  have t3 : tv_ok ta (0, 0, 2000, []) (n_v vs 3) := t3
  have k3 : 0 ≤ v_iv (n_v vs 3) ∧ v_iv (n_v vs 3) ≤ 2000 := tv_rng t3
  obtain ⟨t4, hk⟩ := List.forall_mem_cons.mp hk
  have t4 : tv_ok ta (0, 0, 2000, []) (n_v vs 4) := t4
  have k4 : 0 ≤ v_iv (n_v vs 4) ∧ v_iv (n_v vs 4) ≤ 2000 := tv_rng t4
  obtain ⟨t6, hk⟩ := List.forall_mem_cons.mp hk
  have t6 : tv_ok ta (0, 1, 1, []) (n_v vs 6) := t6
  have k6 : 1 ≤ v_iv (n_v vs 6) ∧ v_iv (n_v vs 6) ≤ 1 := tv_rng t6
  obtain ⟨t9, hk⟩ := List.forall_mem_cons.mp hk
  have t9 : tv_ok ta (0, 0, 23, []) (n_v vs 9) := t9
  have k9 : 0 ≤ v_iv (n_v vs 9) ∧ v_iv (n_v vs 9) ≤ 23 := tv_rng t9
  obtain ⟨t10, hk⟩ := List.forall_mem_cons.mp hk
  have t10 : tv_ok ta (0, 24, 24, []) (n_v vs 10) := t10
  have k10 : 24 ≤ v_iv (n_v vs 10) ∧ v_iv (n_v vs 10) ≤ 24 := tv_rng t10
  obtain ⟨t11, hk⟩ := List.forall_mem_cons.mp hk
  have t11 : tv_ok ta (0, 0, 23, []) (n_v vs 11) := t11
  have k11 : 0 ≤ v_iv (n_v vs 11) ∧ v_iv (n_v vs 11) ≤ 23 := tv_rng t11
  obtain ⟨t12, hk⟩ := List.forall_mem_cons.mp hk
  have t12 : tv_ok ta (2, 0, 0, [152]) (n_v vs 12) := t12
  have r12 : ta (v_ad (n_v vs 12)) = some 152 := tv_rg t12
  obtain ⟨t13, hk⟩ := List.forall_mem_cons.mp hk
  have t13 : tv_ok ta (0, 0, 66297, []) (n_v vs 13) := t13
  have k13 : 0 ≤ v_iv (n_v vs 13) ∧ v_iv (n_v vs 13) ≤ 66297 := tv_rng t13
  obtain ⟨t14, hk⟩ := List.forall_mem_cons.mp hk
  have t14 : tv_ok ta (0, 0, 24, []) (n_v vs 14) := t14
  have k14 : 0 ≤ v_iv (n_v vs 14) ∧ v_iv (n_v vs 14) ≤ 24 := tv_rng t14
  obtain ⟨t15, hk⟩ := List.forall_mem_cons.mp hk
  have t15 : tv_ok ta (0, 1, 1, []) (n_v vs 15) := t15
  have k15 : 1 ≤ v_iv (n_v vs 15) ∧ v_iv (n_v vs 15) ≤ 1 := tv_rng t15
  obtain ⟨t16, hk⟩ := List.forall_mem_cons.mp hk
  have t16 : tv_ok ta (0, 1, 24, []) (n_v vs 16) := t16
  have k16 : 1 ≤ v_iv (n_v vs 16) ∧ v_iv (n_v vs 16) ≤ 24 := tv_rng t16
  obtain ⟨t20, hk⟩ := List.forall_mem_cons.mp hk
  have t20 : tv_ok ta (0, 0, 2000, []) (n_v vs 20) := t20
  have k20 : 0 ≤ v_iv (n_v vs 20) ∧ v_iv (n_v vs 20) ≤ 2000 := tv_rng t20
  obtain ⟨t21, hk⟩ := List.forall_mem_cons.mp hk
  have t21 : tv_ok ta (0, 0, 2000, []) (n_v vs 21) := t21
  have k21 : 0 ≤ v_iv (n_v vs 21) ∧ v_iv (n_v vs 21) ≤ 2000 := tv_rng t21
  obtain ⟨t22, hk⟩ := List.forall_mem_cons.mp hk
  have t22 : tv_ok ta (0, -2000, 2000, []) (n_v vs 22) := t22
  have k22 : (-2000) ≤ v_iv (n_v vs 22) ∧ v_iv (n_v vs 22) ≤ 2000 := tv_rng t22
  have hds : ∀ q ∈ ([(22, 20, -2000, 0), (16, 14, 1, 1)] : List of_T), n_iv vs q.2.1 + q.2.2.1 ≤ n_iv vs q.1 ∧ n_iv vs q.1 ≤ n_iv vs q.2.1 + q.2.2.2 := hds
  obtain ⟨d0, hds⟩ := List.forall_mem_cons.mp hds
  have d0 : v_iv (n_v vs 20) + (-2000) ≤ v_iv (n_v vs 22) ∧ v_iv (n_v vs 22) ≤ v_iv (n_v vs 20) + 0 := d0
  obtain ⟨d1, hds⟩ := List.forall_mem_cons.mp hds
  have d1 : v_iv (n_v vs 14) + 1 ≤ v_iv (n_v vs 16) ∧ v_iv (n_v vs 16) ≤ v_iv (n_v vs 14) + 1 := d1
  have hf : fc_ok [(2, [22, 20, 21], []), (9, [21, 0], [15]), (9, [20, 0], [11]), (9, [13, 0], [5]), (9, [12, 0], [2]), (20, [0, 0], [30, 0, 1, 1, 15, -1, 1, 11]), (20, [0], [50, 3, 0, 12, 11, 15, 2, 21, 4, 7, 1, 3, 2, 0, 12, 0, 1, 0, 3, 2, 0, 11, 4, 3, 2, 0, 15, 0, 8, 3, 7, 1, 3, 2, 0, 12, 0, 0, 0, 7, 4, 3, 2, 0, 15, 0, 1, 2, 0, 11]), (20, [3, 0], [30, 0, 1, 0, 0, -1, 1, 11]), (20, [0, 4], [50, 2, 0, 12, 11, 3, 7, 1, 3, 2, 0, 12, 0, 0, 0, 6, 4, 2, 1, 1, 0, 1, 2, 0, 11]), (20, [6, 0], [50, 1, 0, 1012, 4, 6, 1, 2, 1, 0, 0, 1, 1, 3, 2, 1, 12, 0, 1]), (100, [12, 13, 16], []), (1, [16, 14, 15], []), (10, [14, 12, 13], []), (20, [11, 0], [30, 0, 1, 0, 0, -1, 3, 2005000]), (20, [11, 0], [30, 0, -1, 0, 0, 1, 3, 2005000]), (7, [9, 10], [1]), (20, [9, 0], [30, 0, 1, 0, 0, -1, 3, 2005000]), (20, [9, 0], [30, 0, -1, 0, 0, 1, 3, 2005000]), (8, [6], [1]), (20, [0, 0], [30, 0, 1, 1, 15, -1, 1, 11]), (20, [0], [50, 3, 0, 12, 11, 15, 2, 21, 4, 7, 1, 3, 2, 0, 12, 0, 1, 0, 3, 2, 0, 11, 4, 3, 2, 0, 15, 0, 8, 3, 7, 1, 3, 2, 0, 12, 0, 0, 0, 7, 4, 3, 2, 0, 15, 0, 1, 2, 0, 11]), (20, [3, 0], [30, 0, 1, 0, 0, -1, 1, 11]), (20, [0, 4], [50, 2, 0, 12, 11, 3, 7, 1, 3, 2, 0, 12, 0, 0, 0, 6, 4, 2, 1, 1, 0, 1, 2, 0, 11]), (20, [1, 0], [50, 1, 1, 1005, 1002, 0, 6, 4, 2, 1, 0, 0, 1, 3, 1, 2, 4, 3, 2, 1, 5, 0, 2]), (20, [6, 0], [50, 1, 0, 1012, 4, 6, 1, 2, 1, 0, 0, 1, 1, 3, 2, 1, 12, 0, 1])] ta ws vs := hf
  obtain ⟨f0, hf⟩ := fc_un (show (2 : Nat) < 100 from by decide) hf
  have f0 : v_iv (n_v vs 22) = v_iv (n_v vs 20) - v_iv (n_v vs 21) := f0
  obtain ⟨f1, hf⟩ := fc_un (show (9 : Nat) < 100 from by decide) hf
  have f1 : n_v vs 21 = w_fd ws (v_ad (n_v vs 0)) 15 := f1
  obtain ⟨f2, hf⟩ := fc_un (show (9 : Nat) < 100 from by decide) hf
  have f2 : n_v vs 20 = w_fd ws (v_ad (n_v vs 0)) 11 := f2
  obtain ⟨f3, hf⟩ := fc_un (show (9 : Nat) < 100 from by decide) hf
  have f3 : n_v vs 13 = w_fd ws (v_ad (n_v vs 0)) 5 := f3
  obtain ⟨f4, hf⟩ := fc_un (show (9 : Nat) < 100 from by decide) hf
  have f4 : n_v vs 12 = w_fd ws (v_ad (n_v vs 0)) 2 := f4
  obtain ⟨f5, hf⟩ := fc_un (show (20 : Nat) < 100 from by decide) hf
  have f5 : 1 * w_fi ws (n_v vs 0) 15 + ((-1) * w_fi ws (n_v vs 0) 11 + 0) ≤ 0 := f5
  obtain ⟨f6, hf⟩ := fc_un (show (20 : Nat) < 100 from by decide) hf
  have f6 : ((w_fi ws (n_v vs 0) 12 = 1) → (w_fi ws (n_v vs 0) 11 ≤ (w_fi ws (n_v vs 0) 15 + 8))) ∧ ((w_fi ws (n_v vs 0) 12 = 0) ∨ ((w_fi ws (n_v vs 0) 15 + 1) ≤ w_fi ws (n_v vs 0) 11)) := f6
  obtain ⟨f7, hf⟩ := fc_un (show (20 : Nat) < 100 from by decide) hf
  have f7 : 1 * v_iv (n_v vs 3) + ((-1) * w_fi ws (n_v vs 0) 11 + 0) ≤ 0 := f7
  obtain ⟨f8, hf⟩ := fc_un (show (20 : Nat) < 100 from by decide) hf
  have f8 : (w_fi ws (n_v vs 0) 12 = 0) ∨ ((v_iv (n_v vs 4) + 1) ≤ w_fi ws (n_v vs 0) 11) := f8
  obtain ⟨f9, hf⟩ := fc_un (show (20 : Nat) < 100 from by decide) hf
  have f9 : (v_iv (n_v vs 6) = 1) → (w_fi ws (n_v vs 0) 12 = 1) := f9
  obtain ⟨ta1, w1, le1, ⟨_, s1⟩, hf⟩ := fc_us (show ¬ (100 : Nat) < 100 from by decide) hf
  have s1 : (∀ b j, w_el ws b j = if b = v_ad (n_v vs 12) ∧ j = (v_iv (n_v vs 13)).toNat then v_iv (n_v vs 16) else w_el w1 b j) ∧ ∀ b k, w_fd ws b k = w_fd w1 b k := s1
  obtain ⟨f11, hf⟩ := fc_un (show (1 : Nat) < 100 from by decide) hf
  have f11 : v_iv (n_v vs 16) = v_iv (n_v vs 14) + v_iv (n_v vs 15) := f11
  obtain ⟨f12, hf⟩ := fc_un (show (10 : Nat) < 100 from by decide) hf
  have f12 : v_iv (n_v vs 14) = w_el w1 (v_ad (n_v vs 12)) (v_iv (n_v vs 13)).toNat := f12
  obtain ⟨f13, hf⟩ := fc_un (show (20 : Nat) < 100 from by decide) hf
  have f13 : 1 * v_iv (n_v vs 11) + ((-1) * w_el w1 (w_ar w1 (n_v vs 0) 2) (w_fi w1 (n_v vs 0) 5 + 0).toNat + 0) ≤ 0 := f13
  obtain ⟨f14, hf⟩ := fc_un (show (20 : Nat) < 100 from by decide) hf
  have f14 : (-1) * v_iv (n_v vs 11) + (1 * w_el w1 (w_ar w1 (n_v vs 0) 2) (w_fi w1 (n_v vs 0) 5 + 0).toNat + 0) ≤ 0 := f14
  obtain ⟨f15, hf⟩ := fc_un (show (7 : Nat) < 100 from by decide) hf
  have f15 : v_iv (n_v vs 9) ≠ v_iv (n_v vs 10) := f15
  obtain ⟨f16, hf⟩ := fc_un (show (20 : Nat) < 100 from by decide) hf
  have f16 : 1 * v_iv (n_v vs 9) + ((-1) * w_el w1 (w_ar w1 (n_v vs 0) 2) (w_fi w1 (n_v vs 0) 5 + 0).toNat + 0) ≤ 0 := f16
  obtain ⟨f17, hf⟩ := fc_un (show (20 : Nat) < 100 from by decide) hf
  have f17 : (-1) * v_iv (n_v vs 9) + (1 * w_el w1 (w_ar w1 (n_v vs 0) 2) (w_fi w1 (n_v vs 0) 5 + 0).toNat + 0) ≤ 0 := f17
  obtain ⟨f18, hf⟩ := fc_un (show (8 : Nat) < 100 from by decide) hf
  have f18 : v_iv (n_v vs 6) ≠ 0 := f18
  obtain ⟨f19, hf⟩ := fc_un (show (20 : Nat) < 100 from by decide) hf
  have f19 : 1 * w_fi w1 (n_v vs 0) 15 + ((-1) * w_fi w1 (n_v vs 0) 11 + 0) ≤ 0 := f19
  obtain ⟨f20, hf⟩ := fc_un (show (20 : Nat) < 100 from by decide) hf
  have f20 : ((w_fi w1 (n_v vs 0) 12 = 1) → (w_fi w1 (n_v vs 0) 11 ≤ (w_fi w1 (n_v vs 0) 15 + 8))) ∧ ((w_fi w1 (n_v vs 0) 12 = 0) ∨ ((w_fi w1 (n_v vs 0) 15 + 1) ≤ w_fi w1 (n_v vs 0) 11)) := f20
  obtain ⟨f21, hf⟩ := fc_un (show (20 : Nat) < 100 from by decide) hf
  have f21 : 1 * v_iv (n_v vs 3) + ((-1) * w_fi w1 (n_v vs 0) 11 + 0) ≤ 0 := f21
  obtain ⟨f22, hf⟩ := fc_un (show (20 : Nat) < 100 from by decide) hf
  have f22 : (w_fi w1 (n_v vs 0) 12 = 0) ∨ ((v_iv (n_v vs 4) + 1) ≤ w_fi w1 (n_v vs 0) 11) := f22
  obtain ⟨f23, hf⟩ := fc_un (show (20 : Nat) < 100 from by decide) hf
  have f23 : (v_iv (n_v vs 1) + 1) ≤ w_ei w1 (w_ar w1 (n_v vs 0) 2) ((w_fi w1 (n_v vs 0) 5 + 2)) := f23
  obtain ⟨f24, hf⟩ := fc_un (show (20 : Nat) < 100 from by decide) hf
  have f24 : (v_iv (n_v vs 6) = 1) → (w_fi w1 (n_v vs 0) 12 = 1) := f24
  have ar_0_2_1 : w_ar w1 (n_v vs 0) 2 = w_ar ws (n_v vs 0) 2 := by show v_ad (w_fd w1 _ _) = v_ad (w_fd ws _ _); rw [s1.2]
  have cr_0_2 : ta (w_ar ws (n_v vs 0) 2) = some 152 := tv_rg (th_fd hD hth r0 (g := GG_150) rfl (k := 2) (t := (2, 0, 0, [152])) rfl rfl)
  have fi_0_5_1 : w_fi w1 (n_v vs 0) 5 = w_fi ws (n_v vs 0) 5 := by show v_iv (w_fd w1 _ _) = v_iv (w_fd ws _ _); rw [s1.2]
  have ad_12 : v_ad (n_v vs 12) = w_ar ws (n_v vs 0) 2 := congrArg v_ad f4
  have g1 : v_iv (n_v vs 21) = w_fi ws (n_v vs 0) 15 := congrArg v_iv f1
  have g2 : v_iv (n_v vs 20) = w_fi ws (n_v vs 0) 11 := congrArg v_iv f2
  have g3 : v_iv (n_v vs 13) = w_fi ws (n_v vs 0) 5 := congrArg v_iv f3
  rw [ad_12] at f12
  have h12 : v_iv (n_v vs 14) = w_ei w1 (w_ar ws (n_v vs 0) 2) (v_iv (n_v vs 13)) := f12
  rw [ar_0_2_1] at f13
  rw [fi_0_5_1] at f13
  rw [ar_0_2_1] at f14
  rw [fi_0_5_1] at f14
  rw [ar_0_2_1] at f16
  rw [fi_0_5_1] at f16
  rw [ar_0_2_1] at f17
  rw [fi_0_5_1] at f17
  rw [ar_0_2_1] at f23
  have cg12_F5_0 : v_iv (n_v vs 13) = w_fi ws (n_v vs 0) 5 + 0 → w_el w1 (w_ar ws (n_v vs 0) 2) (v_iv (n_v vs 13)).toNat = w_el w1 (w_ar ws (n_v vs 0) 2) (w_fi ws (n_v vs 0) 5 + 0).toNat := fun h => by rw [h]
  have fe_0_5_1 : w_fi ws (n_v vs 0) 5 = w_fi w1 (n_v vs 0) 5 := congrArg v_iv (s1.2 _ _)
  have fe_0_11_1 : w_fi ws (n_v vs 0) 11 = w_fi w1 (n_v vs 0) 11 := congrArg v_iv (s1.2 _ _)
  have fe_0_12_1 : w_fi ws (n_v vs 0) 12 = w_fi w1 (n_v vs 0) 12 := congrArg v_iv (s1.2 _ _)
  have fe_0_15_1 : w_fi ws (n_v vs 0) 15 = w_fi w1 (n_v vs 0) 15 := congrArg v_iv (s1.2 _ _)
  first | (have ee_0_2_F5_0_1 : w_el ws (w_ar ws (n_v vs 0) 2) (w_fi ws (n_v vs 0) 5 + 0).toNat = w_el w1 (w_ar ws (n_v vs 0) 2) (w_fi ws (n_v vs 0) 5 + 0).toNat := by rw [s1.1, if_neg (fun e => absurd e.2 (by omega))]) | have ee_0_2_F5_0_1 : ((w_fi ws (n_v vs 0) 5 + 0).toNat = (v_iv (n_v vs 13)).toNat → w_el ws (w_ar ws (n_v vs 0) 2) (w_fi ws (n_v vs 0) 5 + 0).toNat = v_iv (n_v vs 16)) ∧ ((w_fi ws (n_v vs 0) 5 + 0).toNat ≠ (v_iv (n_v vs 13)).toNat → w_el ws (w_ar ws (n_v vs 0) 2) (w_fi ws (n_v vs 0) 5 + 0).toNat = w_el w1 (w_ar ws (n_v vs 0) 2) (w_fi ws (n_v vs 0) 5 + 0).toNat) := ⟨fun h => by rw [s1.1, if_pos ⟨ad_12.symm, h⟩], fun h => by rw [s1.1, if_neg (fun e => h e.2)]⟩
  have ee_0_2_13_1 : w_el ws (w_ar ws (n_v vs 0) 2) (v_iv (n_v vs 13)).toNat = v_iv (n_v vs 16) := by rw [s1.1, if_pos ⟨ad_12.symm, rfl⟩]
  have br_0_2_F5_0_0 : w_ei ws (w_ar ws (n_v vs 0) 2) (w_fi ws (n_v vs 0) 5 + 0) = w_el ws (w_ar ws (n_v vs 0) 2) (w_fi ws (n_v vs 0) 5 + 0).toNat := rfl
  have br_0_2_F5_0_1 : w_ei w1 (w_ar ws (n_v vs 0) 2) (w_fi ws (n_v vs 0) 5 + 0) = w_el w1 (w_ar ws (n_v vs 0) 2) (w_fi ws (n_v vs 0) 5 + 0).toNat := rfl
  have br_0_2_13_0 : w_ei ws (w_ar ws (n_v vs 0) 2) (v_iv (n_v vs 13)) = w_el ws (w_ar ws (n_v vs 0) 2) (v_iv (n_v vs 13)).toNat := rfl
  have br_0_2_13_1 : w_ei w1 (w_ar ws (n_v vs 0) 2) (v_iv (n_v vs 13)) = w_el w1 (w_ar ws (n_v vs 0) 2) (v_iv (n_v vs 13)).toNat := rfl
  have hE_0_2_1 : ∀ j : Int, 0 ≤ j → (j = v_iv (n_v vs 13) → w_ei ws (w_ar ws (n_v vs 0) 2) j = v_iv (n_v vs 16)) ∧ (j ≠ v_iv (n_v vs 13) → w_ei ws (w_ar ws (n_v vs 0) 2) j = w_ei w1 (w_ar ws (n_v vs 0) 2) j) := fun j hj => ⟨fun h => by unfold w_ei; rw [s1.1, if_pos ⟨ad_12.symm, by rw [h]⟩], fun h => by unfold w_ei; rw [s1.1, if_neg (fun e => h (by have := e.2; omega))]⟩
  have kz_0_11 : 0 ≤ w_fi ws (n_v vs 0) 11 ∧ w_fi ws (n_v vs 0) 11 ≤ 2000 := tv_rng (th_fd hD hth r0 (g := GG_150) rfl (k := 11) (t := (0, 0, 2000, [])) rfl rfl)
  have kz_0_12 : 0 ≤ w_fi ws (n_v vs 0) 12 ∧ w_fi ws (n_v vs 0) 12 ≤ 4 := tv_rng (th_fd hD hth r0 (g := GG_150) rfl (k := 12) (t := (0, 0, 4, [])) rfl rfl)
  have kz_0_15 : 0 ≤ w_fi ws (n_v vs 0) 15 ∧ w_fi ws (n_v vs 0) 15 ≤ 2000 := tv_rng (th_fd hD hth r0 (g := GG_150) rfl (k := 15) (t := (0, 0, 2000, [])) rfl rfl)
  first | have hJ0 : w_ei w1 (w_ar ws (n_v vs 0) 2) ((w_fi w1 (n_v vs 0) 5 + 2)) = w_ei w1 (w_ar ws (n_v vs 0) 2) ((w_fi ws (n_v vs 0) 5 + 2)) := congrArg _ (show ((w_fi w1 (n_v vs 0) 5 + 2) : Int) = (w_fi ws (n_v vs 0) 5 + 2) from by omega) | skip
  first | have hI1 := (hE_0_2_1 ((w_fi ws (n_v vs 0) 5 + 2)) (by omega)).2 (by omega) | have hI1 := (hE_0_2_1 ((w_fi ws (n_v vs 0) 5 + 2)) (by omega)).1 (by omega) | skip
  have rf22 : tv_ok ta (0, 0, 8, []) (n_v vs 22) := tv_in t22 (by first | omega | grind) (by first | omega | grind)
  refine ⟨List.forall_mem_cons.mpr ⟨rf22, (fun _ h => (by cases h))⟩, [], trivial, ?_, (fun _ h => (by cases h))⟩
  rw [List.append_nil]
  exact (fun _ h => (by cases h))
def o_Mo_met_8 : or_T := (171, 24, [(0, (2, 0, 0, [150])), (1, (0, 0, 7, [])), (2, (0, -1, -1, [])), (3, (0, 0, 2000, [])), (4, (0, 0, 2000, [])), (6, (0, 1, 1, [])), (9, (0, 0, 23, [])), (10, (0, 24, 24, [])), (11, (0, 0, 23, [])), (12, (2, 0, 0, [152])), (13, (0, 0, 66297, [])), (14, (0, 0, 24, [])), (15, (0, 1, 1, [])), (16, (0, 1, 24, [])), (17, (0, 195, 195, [])), (18, (0, 195, 66492, [])), (19, (0, 195, 66515, [])), (20, (0, 0, 2000, [])), (21, (0, 0, 2000, [])), (22, (0, 0, 8, []))], [(20, [0, 0], [30, 0, 1, 1, 15, -1, 1, 11]), (20, [0], [50, 3, 0, 12, 11, 15, 2, 21, 4, 7, 1, 3, 2, 0, 12, 0, 1, 0, 3, 2, 0, 11, 4, 3, 2, 0, 15, 0, 8, 3, 7, 1, 3, 2, 0, 12, 0, 0, 0, 7, 4, 3, 2, 0, 15, 0, 1, 2, 0, 11]), (20, [3, 0], [30, 0, 1, 0, 0, -1, 1, 11]), (20, [0, 4], [50, 2, 0, 12, 11, 3, 7, 1, 3, 2, 0, 12, 0, 0, 0, 6, 4, 2, 1, 1, 0, 1, 2, 0, 11]), (20, [6, 0], [50, 1, 0, 1012, 4, 6, 1, 2, 1, 0, 0, 1, 1, 3, 2, 1, 12, 0, 1]), (100, [12, 19, 22], []), (2, [22, 20, 21], []), (9, [21, 0], [15]), (9, [20, 0], [11]), (1, [19, 18, 11], []), (1, [18, 13, 17], []), (9, [13, 0], [5]), (9, [12, 0], [2]), (20, [0, 0], [30, 0, 1, 1, 15, -1, 1, 11]), (20, [0], [50, 3, 0, 12, 11, 15, 2, 21, 4, 7, 1, 3, 2, 0, 12, 0, 1, 0, 3, 2, 0, 11, 4, 3, 2, 0, 15, 0, 8, 3, 7, 1, 3, 2, 0, 12, 0, 0, 0, 7, 4, 3, 2, 0, 15, 0, 1, 2, 0, 11]), (20, [3, 0], [30, 0, 1, 0, 0, -1, 1, 11]), (20, [0, 4], [50, 2, 0, 12, 11, 3, 7, 1, 3, 2, 0, 12, 0, 0, 0, 6, 4, 2, 1, 1, 0, 1, 2, 0, 11]), (20, [6, 0], [50, 1, 0, 1012, 4, 6, 1, 2, 1, 0, 0, 1, 1, 3, 2, 1, 12, 0, 1]), (100, [12, 13, 16], []), (1, [16, 14, 15], []), (10, [14, 12, 13], []), (20, [11, 0], [30, 0, 1, 0, 0, -1, 3, 2005000]), (20, [11, 0], [30, 0, -1, 0, 0, 1, 3, 2005000]), (8, [2], [2]), (7, [9, 10], [1]), (20, [9, 0], [30, 0, 1, 0, 0, -1, 3, 2005000]), (20, [9, 0], [30, 0, -1, 0, 0, 1, 3, 2005000]), (8, [6], [1]), (20, [0, 0], [30, 0, 1, 1, 15, -1, 1, 11]), (20, [0], [50, 3, 0, 12, 11, 15, 2, 21, 4, 7, 1, 3, 2, 0, 12, 0, 1, 0, 3, 2, 0, 11, 4, 3, 2, 0, 15, 0, 8, 3, 7, 1, 3, 2, 0, 12, 0, 0, 0, 7, 4, 3, 2, 0, 15, 0, 1, 2, 0, 11]), (20, [3, 0], [30, 0, 1, 0, 0, -1, 1, 11]), (20, [0, 4], [50, 2, 0, 12, 11, 3, 7, 1, 3, 2, 0, 12, 0, 0, 0, 6, 4, 2, 1, 1, 0, 1, 2, 0, 11]), (20, [1, 0], [50, 1, 1, 1005, 1002, 0, 6, 4, 2, 1, 0, 0, 1, 3, 1, 2, 4, 3, 2, 1, 5, 0, 2]), (20, [6, 0], [50, 1, 0, 1012, 4, 6, 1, 2, 1, 0, 0, 1, 1, 3, 2, 1, 12, 0, 1])], [], [], [(20, [4, 0], [30, -1, 1, 0, 0, -1, 1, 11]), (20, [0], [50, 1, 0, 12, 1, 3, 2, 0, 12, 0, 1]), (20, [2, 0], [50, 1, 1, 1005, 1002, 3, 6, 0, 2, 1, 0, 0, -1, 0, 10, 3, 1, 2, 4, 3, 2, 1, 5, 0, 1, 0, 47]), (20, [1, 0], [50, 1, 1, 1005, 1002, 0, 6, 4, 2, 1, 0, 0, 1, 3, 1, 2, 4, 3, 2, 1, 5, 0, 2]), (24, [0, 0], []), (24, [1, 1], []), (24, [2, 2], [])], [], [(22, 20, -2000, 0), (19, 11, 195, 66492), (19, 18, 0, 23), (19, 13, 195, 218), (18, 13, 195, 195), (16, 14, 1, 1)])
theorem oo_Mo_met_8 {kA : Nat → ClassId} : or_ok kA GG o_Mo_met_8 := by
  intro A ta ws vs hD hth hl hk hds hf
  have hl : vs.length = 24 := hl
  have hk : ∀ q ∈ ([(0, (2, 0, 0, [150])), (1, (0, 0, 7, [])), (2, (0, -1, -1, [])), (3, (0, 0, 2000, [])), (4, (0, 0, 2000, [])), (6, (0, 1, 1, [])), (9, (0, 0, 23, [])), (10, (0, 24, 24, [])), (11, (0, 0, 23, [])), (12, (2, 0, 0, [152])), (13, (0, 0, 66297, [])), (14, (0, 0, 24, [])), (15, (0, 1, 1, [])), (16, (0, 1, 24, [])), (17, (0, 195, 195, [])), (18, (0, 195, 66492, [])), (19, (0, 195, 66515, [])), (20, (0, 0, 2000, [])), (21, (0, 0, 2000, [])), (22, (0, 0, 8, []))] : List (Nat × tv_T)), tv_ok ta q.2 (n_v vs q.1) := hk
  obtain ⟨t0, hk⟩ := List.forall_mem_cons.mp hk
  have t0 : tv_ok ta (2, 0, 0, [150]) (n_v vs 0) := t0
  have r0 : ta (v_ad (n_v vs 0)) = some 150 := tv_rg t0
  obtain ⟨t1, hk⟩ := List.forall_mem_cons.mp hk
  have t1 : tv_ok ta (0, 0, 7, []) (n_v vs 1) := t1
  have k1 : 0 ≤ v_iv (n_v vs 1) ∧ v_iv (n_v vs 1) ≤ 7 := tv_rng t1
  obtain ⟨t2, hk⟩ := List.forall_mem_cons.mp hk
  have t2 : tv_ok ta (0, -1, -1, []) (n_v vs 2) := t2
  have k2 : (-1) ≤ v_iv (n_v vs 2) ∧ v_iv (n_v vs 2) ≤ (-1) := tv_rng t2
  obtain ⟨t3, hk⟩ := List.forall_mem_cons.mp hk
  have t3 : tv_ok ta (0, 0, 2000, []) (n_v vs 3) := t3
  have k3 : 0 ≤ v_iv (n_v vs 3) ∧ v_iv (n_v vs 3) ≤ 2000 := tv_rng t3
  obtain ⟨t4, hk⟩ := List.forall_mem_cons.mp hk
  have t4 : tv_ok ta (0, 0, 2000, []) (n_v vs 4) := t4
  have k4 : 0 ≤ v_iv (n_v vs 4) ∧ v_iv (n_v vs 4) ≤ 2000 := tv_rng t4
  obtain ⟨t6, hk⟩ := List.forall_mem_cons.mp hk
  have t6 : tv_ok ta (0, 1, 1, []) (n_v vs 6) := t6
  have k6 : 1 ≤ v_iv (n_v vs 6) ∧ v_iv (n_v vs 6) ≤ 1 := tv_rng t6
  obtain ⟨t9, hk⟩ := List.forall_mem_cons.mp hk
  have t9 : tv_ok ta (0, 0, 23, []) (n_v vs 9) := t9
  have k9 : 0 ≤ v_iv (n_v vs 9) ∧ v_iv (n_v vs 9) ≤ 23 := tv_rng t9
  obtain ⟨t10, hk⟩ := List.forall_mem_cons.mp hk
  have t10 : tv_ok ta (0, 24, 24, []) (n_v vs 10) := t10
  have k10 : 24 ≤ v_iv (n_v vs 10) ∧ v_iv (n_v vs 10) ≤ 24 := tv_rng t10
  obtain ⟨t11, hk⟩ := List.forall_mem_cons.mp hk
  have t11 : tv_ok ta (0, 0, 23, []) (n_v vs 11) := t11
  have k11 : 0 ≤ v_iv (n_v vs 11) ∧ v_iv (n_v vs 11) ≤ 23 := tv_rng t11
  obtain ⟨t12, hk⟩ := List.forall_mem_cons.mp hk
  have t12 : tv_ok ta (2, 0, 0, [152]) (n_v vs 12) := t12
  have r12 : ta (v_ad (n_v vs 12)) = some 152 := tv_rg t12
  obtain ⟨t13, hk⟩ := List.forall_mem_cons.mp hk
  have t13 : tv_ok ta (0, 0, 66297, []) (n_v vs 13) := t13
  have k13 : 0 ≤ v_iv (n_v vs 13) ∧ v_iv (n_v vs 13) ≤ 66297 := tv_rng t13
  obtain ⟨t14, hk⟩ := List.forall_mem_cons.mp hk
  have t14 : tv_ok ta (0, 0, 24, []) (n_v vs 14) := t14
  have k14 : 0 ≤ v_iv (n_v vs 14) ∧ v_iv (n_v vs 14) ≤ 24 := tv_rng t14
  obtain ⟨t15, hk⟩ := List.forall_mem_cons.mp hk
  have t15 : tv_ok ta (0, 1, 1, []) (n_v vs 15) := t15
  have k15 : 1 ≤ v_iv (n_v vs 15) ∧ v_iv (n_v vs 15) ≤ 1 := tv_rng t15
  obtain ⟨t16, hk⟩ := List.forall_mem_cons.mp hk
  have t16 : tv_ok ta (0, 1, 24, []) (n_v vs 16) := t16
  have k16 : 1 ≤ v_iv (n_v vs 16) ∧ v_iv (n_v vs 16) ≤ 24 := tv_rng t16
  obtain ⟨t17, hk⟩ := List.forall_mem_cons.mp hk
  have t17 : tv_ok ta (0, 195, 195, []) (n_v vs 17) := t17
  have k17 : 195 ≤ v_iv (n_v vs 17) ∧ v_iv (n_v vs 17) ≤ 195 := tv_rng t17
  obtain ⟨t18, hk⟩ := List.forall_mem_cons.mp hk
  have t18 : tv_ok ta (0, 195, 66492, []) (n_v vs 18) := t18
  have k18 : 195 ≤ v_iv (n_v vs 18) ∧ v_iv (n_v vs 18) ≤ 66492 := tv_rng t18
  obtain ⟨t19, hk⟩ := List.forall_mem_cons.mp hk
  have t19 : tv_ok ta (0, 195, 66515, []) (n_v vs 19) := t19
  have k19 : 195 ≤ v_iv (n_v vs 19) ∧ v_iv (n_v vs 19) ≤ 66515 := tv_rng t19
  obtain ⟨t20, hk⟩ := List.forall_mem_cons.mp hk
  have t20 : tv_ok ta (0, 0, 2000, []) (n_v vs 20) := t20
  have k20 : 0 ≤ v_iv (n_v vs 20) ∧ v_iv (n_v vs 20) ≤ 2000 := tv_rng t20
  obtain ⟨t21, hk⟩ := List.forall_mem_cons.mp hk
  have t21 : tv_ok ta (0, 0, 2000, []) (n_v vs 21) := t21
  have k21 : 0 ≤ v_iv (n_v vs 21) ∧ v_iv (n_v vs 21) ≤ 2000 := tv_rng t21
  obtain ⟨t22, hk⟩ := List.forall_mem_cons.mp hk
  have t22 : tv_ok ta (0, 0, 8, []) (n_v vs 22) := t22
  have k22 : 0 ≤ v_iv (n_v vs 22) ∧ v_iv (n_v vs 22) ≤ 8 := tv_rng t22
  have hds : ∀ q ∈ ([(22, 20, -2000, 0), (19, 11, 195, 66492), (19, 18, 0, 23), (19, 13, 195, 218), (18, 13, 195, 195), (16, 14, 1, 1)] : List of_T), n_iv vs q.2.1 + q.2.2.1 ≤ n_iv vs q.1 ∧ n_iv vs q.1 ≤ n_iv vs q.2.1 + q.2.2.2 := hds
  obtain ⟨d0, hds⟩ := List.forall_mem_cons.mp hds
  have d0 : v_iv (n_v vs 20) + (-2000) ≤ v_iv (n_v vs 22) ∧ v_iv (n_v vs 22) ≤ v_iv (n_v vs 20) + 0 := d0
  obtain ⟨d1, hds⟩ := List.forall_mem_cons.mp hds
  have d1 : v_iv (n_v vs 11) + 195 ≤ v_iv (n_v vs 19) ∧ v_iv (n_v vs 19) ≤ v_iv (n_v vs 11) + 66492 := d1
  obtain ⟨d2, hds⟩ := List.forall_mem_cons.mp hds
  have d2 : v_iv (n_v vs 18) + 0 ≤ v_iv (n_v vs 19) ∧ v_iv (n_v vs 19) ≤ v_iv (n_v vs 18) + 23 := d2
  obtain ⟨d3, hds⟩ := List.forall_mem_cons.mp hds
  have d3 : v_iv (n_v vs 13) + 195 ≤ v_iv (n_v vs 19) ∧ v_iv (n_v vs 19) ≤ v_iv (n_v vs 13) + 218 := d3
  obtain ⟨d4, hds⟩ := List.forall_mem_cons.mp hds
  have d4 : v_iv (n_v vs 13) + 195 ≤ v_iv (n_v vs 18) ∧ v_iv (n_v vs 18) ≤ v_iv (n_v vs 13) + 195 := d4
  obtain ⟨d5, hds⟩ := List.forall_mem_cons.mp hds
  have d5 : v_iv (n_v vs 14) + 1 ≤ v_iv (n_v vs 16) ∧ v_iv (n_v vs 16) ≤ v_iv (n_v vs 14) + 1 := d5
  have hf : fc_ok [(20, [0, 0], [30, 0, 1, 1, 15, -1, 1, 11]), (20, [0], [50, 3, 0, 12, 11, 15, 2, 21, 4, 7, 1, 3, 2, 0, 12, 0, 1, 0, 3, 2, 0, 11, 4, 3, 2, 0, 15, 0, 8, 3, 7, 1, 3, 2, 0, 12, 0, 0, 0, 7, 4, 3, 2, 0, 15, 0, 1, 2, 0, 11]), (20, [3, 0], [30, 0, 1, 0, 0, -1, 1, 11]), (20, [0, 4], [50, 2, 0, 12, 11, 3, 7, 1, 3, 2, 0, 12, 0, 0, 0, 6, 4, 2, 1, 1, 0, 1, 2, 0, 11]), (20, [6, 0], [50, 1, 0, 1012, 4, 6, 1, 2, 1, 0, 0, 1, 1, 3, 2, 1, 12, 0, 1]), (100, [12, 19, 22], []), (2, [22, 20, 21], []), (9, [21, 0], [15]), (9, [20, 0], [11]), (1, [19, 18, 11], []), (1, [18, 13, 17], []), (9, [13, 0], [5]), (9, [12, 0], [2]), (20, [0, 0], [30, 0, 1, 1, 15, -1, 1, 11]), (20, [0], [50, 3, 0, 12, 11, 15, 2, 21, 4, 7, 1, 3, 2, 0, 12, 0, 1, 0, 3, 2, 0, 11, 4, 3, 2, 0, 15, 0, 8, 3, 7, 1, 3, 2, 0, 12, 0, 0, 0, 7, 4, 3, 2, 0, 15, 0, 1, 2, 0, 11]), (20, [3, 0], [30, 0, 1, 0, 0, -1, 1, 11]), (20, [0, 4], [50, 2, 0, 12, 11, 3, 7, 1, 3, 2, 0, 12, 0, 0, 0, 6, 4, 2, 1, 1, 0, 1, 2, 0, 11]), (20, [6, 0], [50, 1, 0, 1012, 4, 6, 1, 2, 1, 0, 0, 1, 1, 3, 2, 1, 12, 0, 1]), (100, [12, 13, 16], []), (1, [16, 14, 15], []), (10, [14, 12, 13], []), (20, [11, 0], [30, 0, 1, 0, 0, -1, 3, 2005000]), (20, [11, 0], [30, 0, -1, 0, 0, 1, 3, 2005000]), (8, [2], [2]), (7, [9, 10], [1]), (20, [9, 0], [30, 0, 1, 0, 0, -1, 3, 2005000]), (20, [9, 0], [30, 0, -1, 0, 0, 1, 3, 2005000]), (8, [6], [1]), (20, [0, 0], [30, 0, 1, 1, 15, -1, 1, 11]), (20, [0], [50, 3, 0, 12, 11, 15, 2, 21, 4, 7, 1, 3, 2, 0, 12, 0, 1, 0, 3, 2, 0, 11, 4, 3, 2, 0, 15, 0, 8, 3, 7, 1, 3, 2, 0, 12, 0, 0, 0, 7, 4, 3, 2, 0, 15, 0, 1, 2, 0, 11]), (20, [3, 0], [30, 0, 1, 0, 0, -1, 1, 11]), (20, [0, 4], [50, 2, 0, 12, 11, 3, 7, 1, 3, 2, 0, 12, 0, 0, 0, 6, 4, 2, 1, 1, 0, 1, 2, 0, 11]), (20, [1, 0], [50, 1, 1, 1005, 1002, 0, 6, 4, 2, 1, 0, 0, 1, 3, 1, 2, 4, 3, 2, 1, 5, 0, 2]), (20, [6, 0], [50, 1, 0, 1012, 4, 6, 1, 2, 1, 0, 0, 1, 1, 3, 2, 1, 12, 0, 1])] ta ws vs := hf
  obtain ⟨f0, hf⟩ := fc_un (show (20 : Nat) < 100 from by decide) hf
  have f0 : 1 * w_fi ws (n_v vs 0) 15 + ((-1) * w_fi ws (n_v vs 0) 11 + 0) ≤ 0 := f0
  obtain ⟨f1, hf⟩ := fc_un (show (20 : Nat) < 100 from by decide) hf
  have f1 : ((w_fi ws (n_v vs 0) 12 = 1) → (w_fi ws (n_v vs 0) 11 ≤ (w_fi ws (n_v vs 0) 15 + 8))) ∧ ((w_fi ws (n_v vs 0) 12 = 0) ∨ ((w_fi ws (n_v vs 0) 15 + 1) ≤ w_fi ws (n_v vs 0) 11)) := f1
  obtain ⟨f2, hf⟩ := fc_un (show (20 : Nat) < 100 from by decide) hf
  have f2 : 1 * v_iv (n_v vs 3) + ((-1) * w_fi ws (n_v vs 0) 11 + 0) ≤ 0 := f2
  obtain ⟨f3, hf⟩ := fc_un (show (20 : Nat) < 100 from by decide) hf
  have f3 : (w_fi ws (n_v vs 0) 12 = 0) ∨ ((v_iv (n_v vs 4) + 1) ≤ w_fi ws (n_v vs 0) 11) := f3
  obtain ⟨f4, hf⟩ := fc_un (show (20 : Nat) < 100 from by decide) hf
  have f4 : (v_iv (n_v vs 6) = 1) → (w_fi ws (n_v vs 0) 12 = 1) := f4
  obtain ⟨ta1, w1, le1, ⟨_, s1⟩, hf⟩ := fc_us (show ¬ (100 : Nat) < 100 from by decide) hf
  have s1 : (∀ b j, w_el ws b j = if b = v_ad (n_v vs 12) ∧ j = (v_iv (n_v vs 19)).toNat then v_iv (n_v vs 22) else w_el w1 b j) ∧ ∀ b k, w_fd ws b k = w_fd w1 b k := s1
  obtain ⟨f6, hf⟩ := fc_un (show (2 : Nat) < 100 from by decide) hf
  have f6 : v_iv (n_v vs 22) = v_iv (n_v vs 20) - v_iv (n_v vs 21) := f6
  obtain ⟨f7, hf⟩ := fc_un (show (9 : Nat) < 100 from by decide) hf
  have f7 : n_v vs 21 = w_fd w1 (v_ad (n_v vs 0)) 15 := f7
  obtain ⟨f8, hf⟩ := fc_un (show (9 : Nat) < 100 from by decide) hf
  have f8 : n_v vs 20 = w_fd w1 (v_ad (n_v vs 0)) 11 := f8
  obtain ⟨f9, hf⟩ := fc_un (show (1 : Nat) < 100 from by decide) hf
  have f9 : v_iv (n_v vs 19) = v_iv (n_v vs 18) + v_iv (n_v vs 11) := f9
  obtain ⟨f10, hf⟩ := fc_un (show (1 : Nat) < 100 from by decide) hf
  have f10 : v_iv (n_v vs 18) = v_iv (n_v vs 13) + v_iv (n_v vs 17) := f10
  obtain ⟨f11, hf⟩ := fc_un (show (9 : Nat) < 100 from by decide) hf
  have f11 : n_v vs 13 = w_fd w1 (v_ad (n_v vs 0)) 5 := f11
  obtain ⟨f12, hf⟩ := fc_un (show (9 : Nat) < 100 from by decide) hf
  have f12 : n_v vs 12 = w_fd w1 (v_ad (n_v vs 0)) 2 := f12
  obtain ⟨f13, hf⟩ := fc_un (show (20 : Nat) < 100 from by decide) hf
  have f13 : 1 * w_fi w1 (n_v vs 0) 15 + ((-1) * w_fi w1 (n_v vs 0) 11 + 0) ≤ 0 := f13
  obtain ⟨f14, hf⟩ := fc_un (show (20 : Nat) < 100 from by decide) hf
  have f14 : ((w_fi w1 (n_v vs 0) 12 = 1) → (w_fi w1 (n_v vs 0) 11 ≤ (w_fi w1 (n_v vs 0) 15 + 8))) ∧ ((w_fi w1 (n_v vs 0) 12 = 0) ∨ ((w_fi w1 (n_v vs 0) 15 + 1) ≤ w_fi w1 (n_v vs 0) 11)) := f14
  obtain ⟨f15, hf⟩ := fc_un (show (20 : Nat) < 100 from by decide) hf
  have f15 : 1 * v_iv (n_v vs 3) + ((-1) * w_fi w1 (n_v vs 0) 11 + 0) ≤ 0 := f15
  obtain ⟨f16, hf⟩ := fc_un (show (20 : Nat) < 100 from by decide) hf
  have f16 : (w_fi w1 (n_v vs 0) 12 = 0) ∨ ((v_iv (n_v vs 4) + 1) ≤ w_fi w1 (n_v vs 0) 11) := f16
  obtain ⟨f17, hf⟩ := fc_un (show (20 : Nat) < 100 from by decide) hf
  have f17 : (v_iv (n_v vs 6) = 1) → (w_fi w1 (n_v vs 0) 12 = 1) := f17
  obtain ⟨ta2, w2, le2, ⟨_, s2⟩, hf⟩ := fc_us (show ¬ (100 : Nat) < 100 from by decide) hf
  have s2 : (∀ b j, w_el w1 b j = if b = v_ad (n_v vs 12) ∧ j = (v_iv (n_v vs 13)).toNat then v_iv (n_v vs 16) else w_el w2 b j) ∧ ∀ b k, w_fd w1 b k = w_fd w2 b k := s2
  obtain ⟨f19, hf⟩ := fc_un (show (1 : Nat) < 100 from by decide) hf
  have f19 : v_iv (n_v vs 16) = v_iv (n_v vs 14) + v_iv (n_v vs 15) := f19
  obtain ⟨f20, hf⟩ := fc_un (show (10 : Nat) < 100 from by decide) hf
  have f20 : v_iv (n_v vs 14) = w_el w2 (v_ad (n_v vs 12)) (v_iv (n_v vs 13)).toNat := f20
  obtain ⟨f21, hf⟩ := fc_un (show (20 : Nat) < 100 from by decide) hf
  have f21 : 1 * v_iv (n_v vs 11) + ((-1) * w_el w2 (w_ar w2 (n_v vs 0) 2) (w_fi w2 (n_v vs 0) 5 + 0).toNat + 0) ≤ 0 := f21
  obtain ⟨f22, hf⟩ := fc_un (show (20 : Nat) < 100 from by decide) hf
  have f22 : (-1) * v_iv (n_v vs 11) + (1 * w_el w2 (w_ar w2 (n_v vs 0) 2) (w_fi w2 (n_v vs 0) 5 + 0).toNat + 0) ≤ 0 := f22
  obtain ⟨f23, hf⟩ := fc_un (show (8 : Nat) < 100 from by decide) hf
  have f23 : v_iv (n_v vs 2) < 0 := f23
  obtain ⟨f24, hf⟩ := fc_un (show (7 : Nat) < 100 from by decide) hf
  have f24 : v_iv (n_v vs 9) ≠ v_iv (n_v vs 10) := f24
  obtain ⟨f25, hf⟩ := fc_un (show (20 : Nat) < 100 from by decide) hf
  have f25 : 1 * v_iv (n_v vs 9) + ((-1) * w_el w2 (w_ar w2 (n_v vs 0) 2) (w_fi w2 (n_v vs 0) 5 + 0).toNat + 0) ≤ 0 := f25
  obtain ⟨f26, hf⟩ := fc_un (show (20 : Nat) < 100 from by decide) hf
  have f26 : (-1) * v_iv (n_v vs 9) + (1 * w_el w2 (w_ar w2 (n_v vs 0) 2) (w_fi w2 (n_v vs 0) 5 + 0).toNat + 0) ≤ 0 := f26
  obtain ⟨f27, hf⟩ := fc_un (show (8 : Nat) < 100 from by decide) hf
  have f27 : v_iv (n_v vs 6) ≠ 0 := f27
  obtain ⟨f28, hf⟩ := fc_un (show (20 : Nat) < 100 from by decide) hf
  have f28 : 1 * w_fi w2 (n_v vs 0) 15 + ((-1) * w_fi w2 (n_v vs 0) 11 + 0) ≤ 0 := f28
  obtain ⟨f29, hf⟩ := fc_un (show (20 : Nat) < 100 from by decide) hf
  have f29 : ((w_fi w2 (n_v vs 0) 12 = 1) → (w_fi w2 (n_v vs 0) 11 ≤ (w_fi w2 (n_v vs 0) 15 + 8))) ∧ ((w_fi w2 (n_v vs 0) 12 = 0) ∨ ((w_fi w2 (n_v vs 0) 15 + 1) ≤ w_fi w2 (n_v vs 0) 11)) := f29
  obtain ⟨f30, hf⟩ := fc_un (show (20 : Nat) < 100 from by decide) hf
  have f30 : 1 * v_iv (n_v vs 3) + ((-1) * w_fi w2 (n_v vs 0) 11 + 0) ≤ 0 := f30
  obtain ⟨f31, hf⟩ := fc_un (show (20 : Nat) < 100 from by decide) hf
  have f31 : (w_fi w2 (n_v vs 0) 12 = 0) ∨ ((v_iv (n_v vs 4) + 1) ≤ w_fi w2 (n_v vs 0) 11) := f31
  obtain ⟨f32, hf⟩ := fc_un (show (20 : Nat) < 100 from by decide) hf
  have f32 : (v_iv (n_v vs 1) + 1) ≤ w_ei w2 (w_ar w2 (n_v vs 0) 2) ((w_fi w2 (n_v vs 0) 5 + 2)) := f32
  obtain ⟨f33, hf⟩ := fc_un (show (20 : Nat) < 100 from by decide) hf
  have f33 : (v_iv (n_v vs 6) = 1) → (w_fi w2 (n_v vs 0) 12 = 1) := f33
  have ar_0_2_1 : w_ar w1 (n_v vs 0) 2 = w_ar ws (n_v vs 0) 2 := by show v_ad (w_fd w1 _ _) = v_ad (w_fd ws _ _); rw [s1.2]
  have ar_0_2_2 : w_ar w2 (n_v vs 0) 2 = w_ar ws (n_v vs 0) 2 := by rw [← ar_0_2_1]; show v_ad (w_fd w2 _ _) = v_ad (w_fd w1 _ _); rw [s2.2]
  have cr_0_2 : ta (w_ar ws (n_v vs 0) 2) = some 152 := tv_rg (th_fd hD hth r0 (g := GG_150) rfl (k := 2) (t := (2, 0, 0, [152])) rfl rfl)
  have fi_0_5_1 : w_fi w1 (n_v vs 0) 5 = w_fi ws (n_v vs 0) 5 := by show v_iv (w_fd w1 _ _) = v_iv (w_fd ws _ _); rw [s1.2]
  have fi_0_5_2 : w_fi w2 (n_v vs 0) 5 = w_fi ws (n_v vs 0) 5 := by rw [← fi_0_5_1]; show v_iv (w_fd w2 _ _) = v_iv (w_fd w1 _ _); rw [s2.2]
  have ad_12 : v_ad (n_v vs 12) = w_ar ws (n_v vs 0) 2 := (congrArg v_ad f12).trans ar_0_2_1
  have g7 : v_iv (n_v vs 21) = w_fi w1 (n_v vs 0) 15 := congrArg v_iv f7
  have g8 : v_iv (n_v vs 20) = w_fi w1 (n_v vs 0) 11 := congrArg v_iv f8
  have g11 : v_iv (n_v vs 13) = w_fi w1 (n_v vs 0) 5 := congrArg v_iv f11
  rw [ad_12] at f20
  have h20 : v_iv (n_v vs 14) = w_ei w2 (w_ar ws (n_v vs 0) 2) (v_iv (n_v vs 13)) := f20
  rw [ar_0_2_2] at f21
  rw [fi_0_5_2] at f21
  rw [ar_0_2_2] at f22
  rw [fi_0_5_2] at f22
  rw [ar_0_2_2] at f25
  rw [fi_0_5_2] at f25
  rw [ar_0_2_2] at f26
  rw [fi_0_5_2] at f26
  rw [ar_0_2_2] at f32
  have cg20_F5_0 : v_iv (n_v vs 13) = w_fi ws (n_v vs 0) 5 + 0 → w_el w2 (w_ar ws (n_v vs 0) 2) (v_iv (n_v vs 13)).toNat = w_el w2 (w_ar ws (n_v vs 0) 2) (w_fi ws (n_v vs 0) 5 + 0).toNat := fun h => by rw [h]
  have fe_0_5_1 : w_fi ws (n_v vs 0) 5 = w_fi w1 (n_v vs 0) 5 := congrArg v_iv (s1.2 _ _)
  have fe_0_11_1 : w_fi ws (n_v vs 0) 11 = w_fi w1 (n_v vs 0) 11 := congrArg v_iv (s1.2 _ _)
  have fe_0_12_1 : w_fi ws (n_v vs 0) 12 = w_fi w1 (n_v vs 0) 12 := congrArg v_iv (s1.2 _ _)
  have fe_0_15_1 : w_fi ws (n_v vs 0) 15 = w_fi w1 (n_v vs 0) 15 := congrArg v_iv (s1.2 _ _)
  first | (have ee_0_2_F5_0_1 : w_el ws (w_ar ws (n_v vs 0) 2) (w_fi ws (n_v vs 0) 5 + 0).toNat = w_el w1 (w_ar ws (n_v vs 0) 2) (w_fi ws (n_v vs 0) 5 + 0).toNat := by rw [s1.1, if_neg (fun e => absurd e.2 (by omega))]) | have ee_0_2_F5_0_1 : ((w_fi ws (n_v vs 0) 5 + 0).toNat = (v_iv (n_v vs 19)).toNat → w_el ws (w_ar ws (n_v vs 0) 2) (w_fi ws (n_v vs 0) 5 + 0).toNat = v_iv (n_v vs 22)) ∧ ((w_fi ws (n_v vs 0) 5 + 0).toNat ≠ (v_iv (n_v vs 19)).toNat → w_el ws (w_ar ws (n_v vs 0) 2) (w_fi ws (n_v vs 0) 5 + 0).toNat = w_el w1 (w_ar ws (n_v vs 0) 2) (w_fi ws (n_v vs 0) 5 + 0).toNat) := ⟨fun h => by rw [s1.1, if_pos ⟨ad_12.symm, h⟩], fun h => by rw [s1.1, if_neg (fun e => h e.2)]⟩
  have ee_0_2_13_1 : ((v_iv (n_v vs 13)).toNat = (v_iv (n_v vs 19)).toNat → w_el ws (w_ar ws (n_v vs 0) 2) (v_iv (n_v vs 13)).toNat = v_iv (n_v vs 22)) ∧ ((v_iv (n_v vs 13)).toNat ≠ (v_iv (n_v vs 19)).toNat → w_el ws (w_ar ws (n_v vs 0) 2) (v_iv (n_v vs 13)).toNat = w_el w1 (w_ar ws (n_v vs 0) 2) (v_iv (n_v vs 13)).toNat) := ⟨fun h => by rw [s1.1, if_pos ⟨ad_12.symm, h⟩], fun h => by rw [s1.1, if_neg (fun e => h e.2)]⟩
  have fe_0_5_2 : w_fi w1 (n_v vs 0) 5 = w_fi w2 (n_v vs 0) 5 := congrArg v_iv (s2.2 _ _)
  have fe_0_11_2 : w_fi w1 (n_v vs 0) 11 = w_fi w2 (n_v vs 0) 11 := congrArg v_iv (s2.2 _ _)
  have fe_0_12_2 : w_fi w1 (n_v vs 0) 12 = w_fi w2 (n_v vs 0) 12 := congrArg v_iv (s2.2 _ _)
  have fe_0_15_2 : w_fi w1 (n_v vs 0) 15 = w_fi w2 (n_v vs 0) 15 := congrArg v_iv (s2.2 _ _)
  first | (have ee_0_2_F5_0_2 : w_el w1 (w_ar ws (n_v vs 0) 2) (w_fi ws (n_v vs 0) 5 + 0).toNat = w_el w2 (w_ar ws (n_v vs 0) 2) (w_fi ws (n_v vs 0) 5 + 0).toNat := by rw [s2.1, if_neg (fun e => absurd e.2 (by omega))]) | have ee_0_2_F5_0_2 : ((w_fi ws (n_v vs 0) 5 + 0).toNat = (v_iv (n_v vs 13)).toNat → w_el w1 (w_ar ws (n_v vs 0) 2) (w_fi ws (n_v vs 0) 5 + 0).toNat = v_iv (n_v vs 16)) ∧ ((w_fi ws (n_v vs 0) 5 + 0).toNat ≠ (v_iv (n_v vs 13)).toNat → w_el w1 (w_ar ws (n_v vs 0) 2) (w_fi ws (n_v vs 0) 5 + 0).toNat = w_el w2 (w_ar ws (n_v vs 0) 2) (w_fi ws (n_v vs 0) 5 + 0).toNat) := ⟨fun h => by rw [s2.1, if_pos ⟨ad_12.symm, h⟩], fun h => by rw [s2.1, if_neg (fun e => h e.2)]⟩
  have ee_0_2_13_2 : w_el w1 (w_ar ws (n_v vs 0) 2) (v_iv (n_v vs 13)).toNat = v_iv (n_v vs 16) := by rw [s2.1, if_pos ⟨ad_12.symm, rfl⟩]
  have br_0_2_F5_0_0 : w_ei ws (w_ar ws (n_v vs 0) 2) (w_fi ws (n_v vs 0) 5 + 0) = w_el ws (w_ar ws (n_v vs 0) 2) (w_fi ws (n_v vs 0) 5 + 0).toNat := rfl
  have br_0_2_F5_0_1 : w_ei w1 (w_ar ws (n_v vs 0) 2) (w_fi ws (n_v vs 0) 5 + 0) = w_el w1 (w_ar ws (n_v vs 0) 2) (w_fi ws (n_v vs 0) 5 + 0).toNat := rfl
  have br_0_2_F5_0_2 : w_ei w2 (w_ar ws (n_v vs 0) 2) (w_fi ws (n_v vs 0) 5 + 0) = w_el w2 (w_ar ws (n_v vs 0) 2) (w_fi ws (n_v vs 0) 5 + 0).toNat := rfl
  have br_0_2_13_0 : w_ei ws (w_ar ws (n_v vs 0) 2) (v_iv (n_v vs 13)) = w_el ws (w_ar ws (n_v vs 0) 2) (v_iv (n_v vs 13)).toNat := rfl
  have br_0_2_13_1 : w_ei w1 (w_ar ws (n_v vs 0) 2) (v_iv (n_v vs 13)) = w_el w1 (w_ar ws (n_v vs 0) 2) (v_iv (n_v vs 13)).toNat := rfl
  have br_0_2_13_2 : w_ei w2 (w_ar ws (n_v vs 0) 2) (v_iv (n_v vs 13)) = w_el w2 (w_ar ws (n_v vs 0) 2) (v_iv (n_v vs 13)).toNat := rfl
  have hE_0_2_1 : ∀ j : Int, 0 ≤ j → (j = v_iv (n_v vs 19) → w_ei ws (w_ar ws (n_v vs 0) 2) j = v_iv (n_v vs 22)) ∧ (j ≠ v_iv (n_v vs 19) → w_ei ws (w_ar ws (n_v vs 0) 2) j = w_ei w1 (w_ar ws (n_v vs 0) 2) j) := fun j hj => ⟨fun h => by unfold w_ei; rw [s1.1, if_pos ⟨ad_12.symm, by rw [h]⟩], fun h => by unfold w_ei; rw [s1.1, if_neg (fun e => h (by have := e.2; omega))]⟩
  have hE_0_2_2 : ∀ j : Int, 0 ≤ j → (j = v_iv (n_v vs 13) → w_ei w1 (w_ar ws (n_v vs 0) 2) j = v_iv (n_v vs 16)) ∧ (j ≠ v_iv (n_v vs 13) → w_ei w1 (w_ar ws (n_v vs 0) 2) j = w_ei w2 (w_ar ws (n_v vs 0) 2) j) := fun j hj => ⟨fun h => by unfold w_ei; rw [s2.1, if_pos ⟨ad_12.symm, by rw [h]⟩], fun h => by unfold w_ei; rw [s2.1, if_neg (fun e => h (by have := e.2; omega))]⟩
  have kz_0_11 : 0 ≤ w_fi ws (n_v vs 0) 11 ∧ w_fi ws (n_v vs 0) 11 ≤ 2000 := tv_rng (th_fd hD hth r0 (g := GG_150) rfl (k := 11) (t := (0, 0, 2000, [])) rfl rfl)
  have kz_0_12 : 0 ≤ w_fi ws (n_v vs 0) 12 ∧ w_fi ws (n_v vs 0) 12 ≤ 4 := tv_rng (th_fd hD hth r0 (g := GG_150) rfl (k := 12) (t := (0, 0, 4, [])) rfl rfl)
  have kz_0_15 : 0 ≤ w_fi ws (n_v vs 0) 15 ∧ w_fi ws (n_v vs 0) 15 ≤ 2000 := tv_rng (th_fd hD hth r0 (g := GG_150) rfl (k := 15) (t := (0, 0, 2000, [])) rfl rfl)
  first | have hJ0 : w_ei w2 (w_ar ws (n_v vs 0) 2) ((w_fi w2 (n_v vs 0) 5 + 2)) = w_ei w2 (w_ar ws (n_v vs 0) 2) ((w_fi ws (n_v vs 0) 5 + 2)) := congrArg _ (show ((w_fi w2 (n_v vs 0) 5 + 2) : Int) = (w_fi ws (n_v vs 0) 5 + 2) from by omega) | skip
  first | have hI1 := (hE_0_2_1 ((w_fi ws (n_v vs 0) 5 + 2)) (by omega)).2 (by omega) | have hI1 := (hE_0_2_1 ((w_fi ws (n_v vs 0) 5 + 2)) (by omega)).1 (by omega) | skip
  first | have hI2 := (hE_0_2_2 ((w_fi ws (n_v vs 0) 5 + 2)) (by omega)).2 (by omega) | have hI2 := (hE_0_2_2 ((w_fi ws (n_v vs 0) 5 + 2)) (by omega)).1 (by omega) | skip
  first | have hI3 := (hE_0_2_1 ((w_fi ws (n_v vs 0) 5 + 1)) (by omega)).2 (by omega) | have hI3 := (hE_0_2_1 ((w_fi ws (n_v vs 0) 5 + 1)) (by omega)).1 (by omega) | skip
  first | have hI4 := (hE_0_2_2 ((w_fi ws (n_v vs 0) 5 + 1)) (by omega)).2 (by omega) | have hI4 := (hE_0_2_2 ((w_fi ws (n_v vs 0) 5 + 1)) (by omega)).1 (by omega) | skip
  have nf0 : fc_1 (20, [4, 0], [30, -1, 1, 0, 0, -1, 1, 11]) ws (vs) := by
    refine ⟨fun n hn => ?_, ?_⟩
    · have hn : n ∈ [4, 0] := hn
      rw [hl]
      simp only [List.mem_cons, List.not_mem_nil, or_false] at hn
      show n < 24; omega
    · show 1 * v_iv (n_v vs 4) + ((-1) * w_fi ws (n_v vs 0) 11 + 0) ≤ (-1)
      omega
  have nf1 : fc_1 (20, [0], [50, 1, 0, 12, 1, 3, 2, 0, 12, 0, 1]) ws (vs) := by
    refine ⟨fun n hn => ?_, ?_⟩
    · have hn : n ∈ [0] := hn
      rw [hl]
      simp only [List.mem_cons, List.not_mem_nil, or_false] at hn
      show n < 24; omega
    · show w_fi ws (n_v vs 0) 12 = 1
      first | omega | grind
  have nf2 : fc_1 (20, [2, 0], [50, 1, 1, 1005, 1002, 3, 6, 0, 2, 1, 0, 0, -1, 0, 10, 3, 1, 2, 4, 3, 2, 1, 5, 0, 1, 0, 47]) ws (vs) := by
    refine ⟨fun n hn => ?_, ?_⟩
    · have hn : n ∈ [2, 0] := hn
      rw [hl]
      simp only [List.mem_cons, List.not_mem_nil, or_false] at hn
      show n < 24; omega
    · show (v_iv (n_v vs 2) ≤ (-1)) ∨ (w_ei ws (w_ar ws (n_v vs 0) 2) ((w_fi ws (n_v vs 0) 5 + 1)) ≤ 47)
      first | omega | grind
  have nf3 : fc_1 (20, [1, 0], [50, 1, 1, 1005, 1002, 0, 6, 4, 2, 1, 0, 0, 1, 3, 1, 2, 4, 3, 2, 1, 5, 0, 2]) ws (vs) := by
    refine ⟨fun n hn => ?_, ?_⟩
    · have hn : n ∈ [1, 0] := hn
      rw [hl]
      simp only [List.mem_cons, List.not_mem_nil, or_false] at hn
      show n < 24; omega
    · show (v_iv (n_v vs 1) + 1) ≤ w_ei ws (w_ar ws (n_v vs 0) 2) ((w_fi ws (n_v vs 0) 5 + 2))
      first | omega | grind
  have nf4 : fc_1 (24, [0, 0], []) ws (vs) := by
    refine ⟨fun n hn => ?_, ?_⟩
    · have hn : n ∈ [0, 0] := hn
      rw [hl]
      simp only [List.mem_cons, List.not_mem_nil, or_false] at hn
      show n < 24; omega
    · show n_v vs 0 = n_v vs 0
      first | rfl | simp only [true_and]
  have nf5 : fc_1 (24, [1, 1], []) ws (vs) := by
    refine ⟨fun n hn => ?_, ?_⟩
    · have hn : n ∈ [1, 1] := hn
      rw [hl]
      simp only [List.mem_cons, List.not_mem_nil, or_false] at hn
      show n < 24; omega
    · show n_v vs 1 = n_v vs 1
      first | rfl | simp only [true_and]
  have nf6 : fc_1 (24, [2, 2], []) ws (vs) := by
    refine ⟨fun n hn => ?_, ?_⟩
    · have hn : n ∈ [2, 2] := hn
      rw [hl]
      simp only [List.mem_cons, List.not_mem_nil, or_false] at hn
      show n < 24; omega
    · show n_v vs 2 = n_v vs 2
      first | rfl | simp only [true_and]
  refine ⟨(fun _ h => (by cases h)), [], trivial, ?_, (fun _ h => (by cases h))⟩
  rw [List.append_nil]
  exact List.forall_mem_cons.mpr ⟨⟨show (20 : Nat) < 100 from by decide, nf0⟩, List.forall_mem_cons.mpr ⟨⟨show (20 : Nat) < 100 from by decide, nf1⟩, List.forall_mem_cons.mpr ⟨⟨show (20 : Nat) < 100 from by decide, nf2⟩, List.forall_mem_cons.mpr ⟨⟨show (20 : Nat) < 100 from by decide, nf3⟩, List.forall_mem_cons.mpr ⟨⟨show (24 : Nat) < 100 from by decide, nf4⟩, List.forall_mem_cons.mpr ⟨⟨show (24 : Nat) < 100 from by decide, nf5⟩, List.forall_mem_cons.mpr ⟨⟨show (24 : Nat) < 100 from by decide, nf6⟩, (fun _ h => (by cases h))⟩⟩⟩⟩⟩⟩⟩
def o_Mo_met_9 : or_T := (130, 14, [(0, (2, 0, 0, [150])), (1, (0, 0, 7, [])), (3, (0, 0, 2000, [])), (4, (0, 0, 2000, [])), (6, (0, 1, 1, [])), (9, (0, 0, 23, [])), (10, (0, 24, 24, [])), (11, (0, 0, 47, [])), (12, (0, 48, 48, [])), (13, (0, 0, 24, []))], [(20, [13, 0], [30, 0, 1, 0, 0, -1, 3, 2005000]), (20, [13, 0], [30, 0, -1, 0, 0, 1, 3, 2005000]), (7, [11, 12], [1]), (20, [11, 0], [30, 0, 1, 0, 0, -1, 3, 2005001]), (20, [11, 0], [30, 0, -1, 0, 0, 1, 3, 2005001]), (7, [9, 10], [1]), (20, [9, 0], [30, 0, 1, 0, 0, -1, 3, 2005000]), (20, [9, 0], [30, 0, -1, 0, 0, 1, 3, 2005000]), (8, [6], [1]), (20, [0, 0], [30, 0, 1, 1, 15, -1, 1, 11]), (20, [0], [50, 3, 0, 12, 11, 15, 2, 21, 4, 7, 1, 3, 2, 0, 12, 0, 1, 0, 3, 2, 0, 11, 4, 3, 2, 0, 15, 0, 8, 3, 7, 1, 3, 2, 0, 12, 0, 0, 0, 7, 4, 3, 2, 0, 15, 0, 1, 2, 0, 11]), (20, [3, 0], [30, 0, 1, 0, 0, -1, 1, 11]), (20, [0, 4], [50, 2, 0, 12, 11, 3, 7, 1, 3, 2, 0, 12, 0, 0, 0, 6, 4, 2, 1, 1, 0, 1, 2, 0, 11]), (20, [1, 0], [50, 1, 1, 1005, 1002, 0, 6, 4, 2, 1, 0, 0, 1, 3, 1, 2, 4, 3, 2, 1, 5, 0, 2]), (20, [6, 0], [50, 1, 0, 1012, 4, 6, 1, 2, 1, 0, 0, 1, 1, 3, 2, 1, 12, 0, 1])], [(13, (0, 0, 23, []))], [], [], [], [])
theorem oo_Mo_met_9 {kA : Nat → ClassId} : or_ok kA GG o_Mo_met_9 := by
  intro A ta ws vs hD hth hl hk hds hf
  have hl : vs.length = 14 := hl
  have hk : ∀ q ∈ ([(0, (2, 0, 0, [150])), (1, (0, 0, 7, [])), (3, (0, 0, 2000, [])), (4, (0, 0, 2000, [])), (6, (0, 1, 1, [])), (9, (0, 0, 23, [])), (10, (0, 24, 24, [])), (11, (0, 0, 47, [])), (12, (0, 48, 48, [])), (13, (0, 0, 24, []))] : List (Nat × tv_T)), tv_ok ta q.2 (n_v vs q.1) := hk
  obtain ⟨t0, hk⟩ := List.forall_mem_cons.mp hk
  have t0 : tv_ok ta (2, 0, 0, [150]) (n_v vs 0) := t0
  have r0 : ta (v_ad (n_v vs 0)) = some 150 := tv_rg t0
  obtain ⟨t1, hk⟩ := List.forall_mem_cons.mp hk
  have t1 : tv_ok ta (0, 0, 7, []) (n_v vs 1) := t1
  have k1 : 0 ≤ v_iv (n_v vs 1) ∧ v_iv (n_v vs 1) ≤ 7 := tv_rng t1
  obtain ⟨t3, hk⟩ := List.forall_mem_cons.mp hk
  have t3 : tv_ok ta (0, 0, 2000, []) (n_v vs 3) := t3
  have k3 : 0 ≤ v_iv (n_v vs 3) ∧ v_iv (n_v vs 3) ≤ 2000 := tv_rng t3
  obtain ⟨t4, hk⟩ := List.forall_mem_cons.mp hk
  have t4 : tv_ok ta (0, 0, 2000, []) (n_v vs 4) := t4
  have k4 : 0 ≤ v_iv (n_v vs 4) ∧ v_iv (n_v vs 4) ≤ 2000 := tv_rng t4
  obtain ⟨t6, hk⟩ := List.forall_mem_cons.mp hk
  have t6 : tv_ok ta (0, 1, 1, []) (n_v vs 6) := t6
  have k6 : 1 ≤ v_iv (n_v vs 6) ∧ v_iv (n_v vs 6) ≤ 1 := tv_rng t6
  obtain ⟨t9, hk⟩ := List.forall_mem_cons.mp hk
  have t9 : tv_ok ta (0, 0, 23, []) (n_v vs 9) := t9
  have k9 : 0 ≤ v_iv (n_v vs 9) ∧ v_iv (n_v vs 9) ≤ 23 := tv_rng t9
  obtain ⟨t10, hk⟩ := List.forall_mem_cons.mp hk
  have t10 : tv_ok ta (0, 24, 24, []) (n_v vs 10) := t10
  have k10 : 24 ≤ v_iv (n_v vs 10) ∧ v_iv (n_v vs 10) ≤ 24 := tv_rng t10
  obtain ⟨t11, hk⟩ := List.forall_mem_cons.mp hk
  have t11 : tv_ok ta (0, 0, 47, []) (n_v vs 11) := t11
  have k11 : 0 ≤ v_iv (n_v vs 11) ∧ v_iv (n_v vs 11) ≤ 47 := tv_rng t11
  obtain ⟨t12, hk⟩ := List.forall_mem_cons.mp hk
  have t12 : tv_ok ta (0, 48, 48, []) (n_v vs 12) := t12
  have k12 : 48 ≤ v_iv (n_v vs 12) ∧ v_iv (n_v vs 12) ≤ 48 := tv_rng t12
  obtain ⟨t13, hk⟩ := List.forall_mem_cons.mp hk
  have t13 : tv_ok ta (0, 0, 24, []) (n_v vs 13) := t13
  have k13 : 0 ≤ v_iv (n_v vs 13) ∧ v_iv (n_v vs 13) ≤ 24 := tv_rng t13
  have hf : fc_ok [(20, [13, 0], [30, 0, 1, 0, 0, -1, 3, 2005000]), (20, [13, 0], [30, 0, -1, 0, 0, 1, 3, 2005000]), (7, [11, 12], [1]), (20, [11, 0], [30, 0, 1, 0, 0, -1, 3, 2005001]), (20, [11, 0], [30, 0, -1, 0, 0, 1, 3, 2005001]), (7, [9, 10], [1]), (20, [9, 0], [30, 0, 1, 0, 0, -1, 3, 2005000]), (20, [9, 0], [30, 0, -1, 0, 0, 1, 3, 2005000]), (8, [6], [1]), (20, [0, 0], [30, 0, 1, 1, 15, -1, 1, 11]), (20, [0], [50, 3, 0, 12, 11, 15, 2, 21, 4, 7, 1, 3, 2, 0, 12, 0, 1, 0, 3, 2, 0, 11, 4, 3, 2, 0, 15, 0, 8, 3, 7, 1, 3, 2, 0, 12, 0, 0, 0, 7, 4, 3, 2, 0, 15, 0, 1, 2, 0, 11]), (20, [3, 0], [30, 0, 1, 0, 0, -1, 1, 11]), (20, [0, 4], [50, 2, 0, 12, 11, 3, 7, 1, 3, 2, 0, 12, 0, 0, 0, 6, 4, 2, 1, 1, 0, 1, 2, 0, 11]), (20, [1, 0], [50, 1, 1, 1005, 1002, 0, 6, 4, 2, 1, 0, 0, 1, 3, 1, 2, 4, 3, 2, 1, 5, 0, 2]), (20, [6, 0], [50, 1, 0, 1012, 4, 6, 1, 2, 1, 0, 0, 1, 1, 3, 2, 1, 12, 0, 1])] ta ws vs := hf
  obtain ⟨f0, hf⟩ := fc_un (show (20 : Nat) < 100 from by decide) hf
  have f0 : 1 * v_iv (n_v vs 13) + ((-1) * w_el ws (w_ar ws (n_v vs 0) 2) (w_fi ws (n_v vs 0) 5 + 0).toNat + 0) ≤ 0 := f0
  obtain ⟨f1, hf⟩ := fc_un (show (20 : Nat) < 100 from by decide) hf
  have f1 : (-1) * v_iv (n_v vs 13) + (1 * w_el ws (w_ar ws (n_v vs 0) 2) (w_fi ws (n_v vs 0) 5 + 0).toNat + 0) ≤ 0 := f1
  obtain ⟨f2, hf⟩ := fc_un (show (7 : Nat) < 100 from by decide) hf
  have f2 : v_iv (n_v vs 11) ≠ v_iv (n_v vs 12) := f2
  obtain ⟨f3, hf⟩ := fc_un (show (20 : Nat) < 100 from by decide) hf
  have f3 : 1 * v_iv (n_v vs 11) + ((-1) * w_el ws (w_ar ws (n_v vs 0) 2) (w_fi ws (n_v vs 0) 5 + 1).toNat + 0) ≤ 0 := f3
  obtain ⟨f4, hf⟩ := fc_un (show (20 : Nat) < 100 from by decide) hf
  have f4 : (-1) * v_iv (n_v vs 11) + (1 * w_el ws (w_ar ws (n_v vs 0) 2) (w_fi ws (n_v vs 0) 5 + 1).toNat + 0) ≤ 0 := f4
  obtain ⟨f5, hf⟩ := fc_un (show (7 : Nat) < 100 from by decide) hf
  have f5 : v_iv (n_v vs 9) ≠ v_iv (n_v vs 10) := f5
  obtain ⟨f6, hf⟩ := fc_un (show (20 : Nat) < 100 from by decide) hf
  have f6 : 1 * v_iv (n_v vs 9) + ((-1) * w_el ws (w_ar ws (n_v vs 0) 2) (w_fi ws (n_v vs 0) 5 + 0).toNat + 0) ≤ 0 := f6
  obtain ⟨f7, hf⟩ := fc_un (show (20 : Nat) < 100 from by decide) hf
  have f7 : (-1) * v_iv (n_v vs 9) + (1 * w_el ws (w_ar ws (n_v vs 0) 2) (w_fi ws (n_v vs 0) 5 + 0).toNat + 0) ≤ 0 := f7
  obtain ⟨f8, hf⟩ := fc_un (show (8 : Nat) < 100 from by decide) hf
  have f8 : v_iv (n_v vs 6) ≠ 0 := f8
  obtain ⟨f9, hf⟩ := fc_un (show (20 : Nat) < 100 from by decide) hf
  have f9 : 1 * w_fi ws (n_v vs 0) 15 + ((-1) * w_fi ws (n_v vs 0) 11 + 0) ≤ 0 := f9
  obtain ⟨f10, hf⟩ := fc_un (show (20 : Nat) < 100 from by decide) hf
  have f10 : ((w_fi ws (n_v vs 0) 12 = 1) → (w_fi ws (n_v vs 0) 11 ≤ (w_fi ws (n_v vs 0) 15 + 8))) ∧ ((w_fi ws (n_v vs 0) 12 = 0) ∨ ((w_fi ws (n_v vs 0) 15 + 1) ≤ w_fi ws (n_v vs 0) 11)) := f10
  obtain ⟨f11, hf⟩ := fc_un (show (20 : Nat) < 100 from by decide) hf
  have f11 : 1 * v_iv (n_v vs 3) + ((-1) * w_fi ws (n_v vs 0) 11 + 0) ≤ 0 := f11
  obtain ⟨f12, hf⟩ := fc_un (show (20 : Nat) < 100 from by decide) hf
  have f12 : (w_fi ws (n_v vs 0) 12 = 0) ∨ ((v_iv (n_v vs 4) + 1) ≤ w_fi ws (n_v vs 0) 11) := f12
  obtain ⟨f13, hf⟩ := fc_un (show (20 : Nat) < 100 from by decide) hf
  have f13 : (v_iv (n_v vs 1) + 1) ≤ w_ei ws (w_ar ws (n_v vs 0) 2) ((w_fi ws (n_v vs 0) 5 + 2)) := f13
  obtain ⟨f14, hf⟩ := fc_un (show (20 : Nat) < 100 from by decide) hf
  have f14 : (v_iv (n_v vs 6) = 1) → (w_fi ws (n_v vs 0) 12 = 1) := f14
  have cr_0_2 : ta (w_ar ws (n_v vs 0) 2) = some 152 := tv_rg (th_fd hD hth r0 (g := GG_150) rfl (k := 2) (t := (2, 0, 0, [152])) rfl rfl)
  have br_0_2_F5_0_0 : w_ei ws (w_ar ws (n_v vs 0) 2) (w_fi ws (n_v vs 0) 5 + 0) = w_el ws (w_ar ws (n_v vs 0) 2) (w_fi ws (n_v vs 0) 5 + 0).toNat := rfl
  have br_0_2_F5_1_0 : w_ei ws (w_ar ws (n_v vs 0) 2) (w_fi ws (n_v vs 0) 5 + 1) = w_el ws (w_ar ws (n_v vs 0) 2) (w_fi ws (n_v vs 0) 5 + 1).toNat := rfl
  have kz_0_11 : 0 ≤ w_fi ws (n_v vs 0) 11 ∧ w_fi ws (n_v vs 0) 11 ≤ 2000 := tv_rng (th_fd hD hth r0 (g := GG_150) rfl (k := 11) (t := (0, 0, 2000, [])) rfl rfl)
  have kz_0_12 : 0 ≤ w_fi ws (n_v vs 0) 12 ∧ w_fi ws (n_v vs 0) 12 ≤ 4 := tv_rng (th_fd hD hth r0 (g := GG_150) rfl (k := 12) (t := (0, 0, 4, [])) rfl rfl)
  have kz_0_15 : 0 ≤ w_fi ws (n_v vs 0) 15 ∧ w_fi ws (n_v vs 0) 15 ≤ 2000 := tv_rng (th_fd hD hth r0 (g := GG_150) rfl (k := 15) (t := (0, 0, 2000, [])) rfl rfl)
  have rf13 : tv_ok ta (0, 0, 23, []) (n_v vs 13) := tv_in t13 (by first | omega | grind) (by first | omega | grind)
  refine ⟨List.forall_mem_cons.mpr ⟨rf13, (fun _ h => (by cases h))⟩, [], trivial, ?_, (fun _ h => (by cases h))⟩
  rw [List.append_nil]
  exact (fun _ h => (by cases h))
def o_Mo_met_10 : or_T := (143, 19, [(0, (2, 0, 0, [150])), (1, (0, 0, 7, [])), (3, (0, 0, 2000, [])), (4, (0, 0, 2000, [])), (6, (0, 1, 1, [])), (9, (0, 0, 23, [])), (10, (0, 24, 24, [])), (11, (0, 0, 47, [])), (12, (0, 48, 48, [])), (13, (0, 0, 23, [])), (14, (2, 0, 0, [152])), (15, (0, 0, 66297, [])), (16, (0, 0, 24, [])), (17, (0, 1, 1, [])), (18, (0, 1, 25, []))], [(1, [18, 16, 17], []), (10, [16, 14, 15], []), (9, [15, 0], [5]), (9, [14, 0], [2]), (20, [13, 0], [30, 0, 1, 0, 0, -1, 3, 2005000]), (20, [13, 0], [30, 0, -1, 0, 0, 1, 3, 2005000]), (7, [11, 12], [1]), (20, [11, 0], [30, 0, 1, 0, 0, -1, 3, 2005001]), (20, [11, 0], [30, 0, -1, 0, 0, 1, 3, 2005001]), (7, [9, 10], [1]), (20, [9, 0], [30, 0, 1, 0, 0, -1, 3, 2005000]), (20, [9, 0], [30, 0, -1, 0, 0, 1, 3, 2005000]), (8, [6], [1]), (20, [0, 0], [30, 0, 1, 1, 15, -1, 1, 11]), (20, [0], [50, 3, 0, 12, 11, 15, 2, 21, 4, 7, 1, 3, 2, 0, 12, 0, 1, 0, 3, 2, 0, 11, 4, 3, 2, 0, 15, 0, 8, 3, 7, 1, 3, 2, 0, 12, 0, 0, 0, 7, 4, 3, 2, 0, 15, 0, 1, 2, 0, 11]), (20, [3, 0], [30, 0, 1, 0, 0, -1, 1, 11]), (20, [0, 4], [50, 2, 0, 12, 11, 3, 7, 1, 3, 2, 0, 12, 0, 0, 0, 6, 4, 2, 1, 1, 0, 1, 2, 0, 11]), (20, [1, 0], [50, 1, 1, 1005, 1002, 0, 6, 4, 2, 1, 0, 0, 1, 3, 1, 2, 4, 3, 2, 1, 5, 0, 2]), (20, [6, 0], [50, 1, 0, 1012, 4, 6, 1, 2, 1, 0, 0, 1, 1, 3, 2, 1, 12, 0, 1])], [(18, (0, 1, 24, []))], [], [], [], [(18, 16, 1, 1)])
theorem oo_Mo_met_10 {kA : Nat → ClassId} : or_ok kA GG o_Mo_met_10 := by
  intro A ta ws vs hD hth hl hk hds hf
  have hl : vs.length = 19 := hl
  have hk : ∀ q ∈ ([(0, (2, 0, 0, [150])), (1, (0, 0, 7, [])), (3, (0, 0, 2000, [])), (4, (0, 0, 2000, [])), (6, (0, 1, 1, [])), (9, (0, 0, 23, [])), (10, (0, 24, 24, [])), (11, (0, 0, 47, [])), (12, (0, 48, 48, [])), (13, (0, 0, 23, [])), (14, (2, 0, 0, [152])), (15, (0, 0, 66297, [])), (16, (0, 0, 24, [])), (17, (0, 1, 1, [])), (18, (0, 1, 25, []))] : List (Nat × tv_T)), tv_ok ta q.2 (n_v vs q.1) := hk
  obtain ⟨t0, hk⟩ := List.forall_mem_cons.mp hk
  have t0 : tv_ok ta (2, 0, 0, [150]) (n_v vs 0) := t0
  have r0 : ta (v_ad (n_v vs 0)) = some 150 := tv_rg t0
  obtain ⟨t1, hk⟩ := List.forall_mem_cons.mp hk
  have t1 : tv_ok ta (0, 0, 7, []) (n_v vs 1) := t1
  have k1 : 0 ≤ v_iv (n_v vs 1) ∧ v_iv (n_v vs 1) ≤ 7 := tv_rng t1
  obtain ⟨t3, hk⟩ := List.forall_mem_cons.mp hk
  have t3 : tv_ok ta (0, 0, 2000, []) (n_v vs 3) := t3
  have k3 : 0 ≤ v_iv (n_v vs 3) ∧ v_iv (n_v vs 3) ≤ 2000 := tv_rng t3
  obtain ⟨t4, hk⟩ := List.forall_mem_cons.mp hk
  have t4 : tv_ok ta (0, 0, 2000, []) (n_v vs 4) := t4
  have k4 : 0 ≤ v_iv (n_v vs 4) ∧ v_iv (n_v vs 4) ≤ 2000 := tv_rng t4
  obtain ⟨t6, hk⟩ := List.forall_mem_cons.mp hk
  have t6 : tv_ok ta (0, 1, 1, []) (n_v vs 6) := t6
  have k6 : 1 ≤ v_iv (n_v vs 6) ∧ v_iv (n_v vs 6) ≤ 1 := tv_rng t6
  obtain ⟨t9, hk⟩ := List.forall_mem_cons.mp hk
  have t9 : tv_ok ta (0, 0, 23, []) (n_v vs 9) := t9
  have k9 : 0 ≤ v_iv (n_v vs 9) ∧ v_iv (n_v vs 9) ≤ 23 := tv_rng t9
  obtain ⟨t10, hk⟩ := List.forall_mem_cons.mp hk
  have t10 : tv_ok ta (0, 24, 24, []) (n_v vs 10) := t10
  have k10 : 24 ≤ v_iv (n_v vs 10) ∧ v_iv (n_v vs 10) ≤ 24 := tv_rng t10
  obtain ⟨t11, hk⟩ := List.forall_mem_cons.mp hk
  have t11 : tv_ok ta (0, 0, 47, []) (n_v vs 11) := t11
  have k11 : 0 ≤ v_iv (n_v vs 11) ∧ v_iv (n_v vs 11) ≤ 47 := tv_rng t11
  obtain ⟨t12, hk⟩ := List.forall_mem_cons.mp hk
  have t12 : tv_ok ta (0, 48, 48, []) (n_v vs 12) := t12
  have k12 : 48 ≤ v_iv (n_v vs 12) ∧ v_iv (n_v vs 12) ≤ 48 := tv_rng t12
  obtain ⟨t13, hk⟩ := List.forall_mem_cons.mp hk
  have t13 : tv_ok ta (0, 0, 23, []) (n_v vs 13) := t13
  have k13 : 0 ≤ v_iv (n_v vs 13) ∧ v_iv (n_v vs 13) ≤ 23 := tv_rng t13
  obtain ⟨t14, hk⟩ := List.forall_mem_cons.mp hk
  have t14 : tv_ok ta (2, 0, 0, [152]) (n_v vs 14) := t14
  have r14 : ta (v_ad (n_v vs 14)) = some 152 := tv_rg t14
  obtain ⟨t15, hk⟩ := List.forall_mem_cons.mp hk
  have t15 : tv_ok ta (0, 0, 66297, []) (n_v vs 15) := t15
  have k15 : 0 ≤ v_iv (n_v vs 15) ∧ v_iv (n_v vs 15) ≤ 66297 := tv_rng t15
  obtain ⟨t16, hk⟩ := List.forall_mem_cons.mp hk
  have t16 : tv_ok ta (0, 0, 24, []) (n_v vs 16) := t16
  have k16 : 0 ≤ v_iv (n_v vs 16) ∧ v_iv (n_v vs 16) ≤ 24 := tv_rng t16
  obtain ⟨t17, hk⟩ := List.forall_mem_cons.mp hk
  have t17 : tv_ok ta (0, 1, 1, []) (n_v vs 17) := t17
  have k17 : 1 ≤ v_iv (n_v vs 17) ∧ v_iv (n_v vs 17) ≤ 1 := tv_rng t17
  obtain ⟨t18, hk⟩ := List.forall_mem_cons.mp hk
  have t18 : tv_ok ta (0, 1, 25, []) (n_v vs 18) := t18
  have k18 : 1 ≤ v_iv (n_v vs 18) ∧ v_iv (n_v vs 18) ≤ 25 := tv_rng t18
  have hds : ∀ q ∈ ([(18, 16, 1, 1)] : List of_T), n_iv vs q.2.1 + q.2.2.1 ≤ n_iv vs q.1 ∧ n_iv vs q.1 ≤ n_iv vs q.2.1 + q.2.2.2 := hds
  obtain ⟨d0, hds⟩ := List.forall_mem_cons.mp hds
  have d0 : v_iv (n_v vs 16) + 1 ≤ v_iv (n_v vs 18) ∧ v_iv (n_v vs 18) ≤ v_iv (n_v vs 16) + 1 := d0
  have hf : fc_ok [(1, [18, 16, 17], []), (10, [16, 14, 15], []), (9, [15, 0], [5]), (9, [14, 0], [2]), (20, [13, 0], [30, 0, 1, 0, 0, -1, 3, 2005000]), (20, [13, 0], [30, 0, -1, 0, 0, 1, 3, 2005000]), (7, [11, 12], [1]), (20, [11, 0], [30, 0, 1, 0, 0, -1, 3, 2005001]), (20, [11, 0], [30, 0, -1, 0, 0, 1, 3, 2005001]), (7, [9, 10], [1]), (20, [9, 0], [30, 0, 1, 0, 0, -1, 3, 2005000]), (20, [9, 0], [30, 0, -1, 0, 0, 1, 3, 2005000]), (8, [6], [1]), (20, [0, 0], [30, 0, 1, 1, 15, -1, 1, 11]), (20, [0], [50, 3, 0, 12, 11, 15, 2, 21, 4, 7, 1, 3, 2, 0, 12, 0, 1, 0, 3, 2, 0, 11, 4, 3, 2, 0, 15, 0, 8, 3, 7, 1, 3, 2, 0, 12, 0, 0, 0, 7, 4, 3, 2, 0, 15, 0, 1, 2, 0, 11]), (20, [3, 0], [30, 0, 1, 0, 0, -1, 1, 11]), (20, [0, 4], [50, 2, 0, 12, 11, 3, 7, 1, 3, 2, 0, 12, 0, 0, 0, 6, 4, 2, 1, 1, 0, 1, 2, 0, 11]), (20, [1, 0], [50, 1, 1, 1005, 1002, 0, 6, 4, 2, 1, 0, 0, 1, 3, 1, 2, 4, 3, 2, 1, 5, 0, 2]), (20, [6, 0], [50, 1, 0, 1012, 4, 6, 1, 2, 1, 0, 0, 1, 1, 3, 2, 1, 12, 0, 1])] ta ws vs := hf
  obtain ⟨f0, hf⟩ := fc_un (show (1 : Nat) < 100 from by decide) hf
  have f0 : v_iv (n_v vs 18) = v_iv (n_v vs 16) + v_iv (n_v vs 17) := f0
  obtain ⟨f1, hf⟩ := fc_un (show (10 : Nat) < 100 from by decide) hf
  have f1 : v_iv (n_v vs 16) = w_el ws (v_ad (n_v vs 14)) (v_iv (n_v vs 15)).toNat := f1
  obtain ⟨f2, hf⟩ := fc_un (show (9 : Nat) < 100 from by decide) hf
  have f2 : n_v vs 15 = w_fd ws (v_ad (n_v vs 0)) 5 := f2
  obtain ⟨f3, hf⟩ := fc_un (show (9 : Nat) < 100 from by decide) hf
  have f3 : n_v vs 14 = w_fd ws (v_ad (n_v vs 0)) 2 := f3
  obtain ⟨f4, hf⟩ := fc_un (show (20 : Nat) < 100 from by decide) hf
  have f4 : 1 * v_iv (n_v vs 13) + ((-1) * w_el ws (w_ar ws (n_v vs 0) 2) (w_fi ws (n_v vs 0) 5 + 0).toNat + 0) ≤ 0 := f4
  obtain ⟨f5, hf⟩ := fc_un (show (20 : Nat) < 100 from by decide) hf
  have f5 : (-1) * v_iv (n_v vs 13) + (1 * w_el ws (w_ar ws (n_v vs 0) 2) (w_fi ws (n_v vs 0) 5 + 0).toNat + 0) ≤ 0 := f5
  obtain ⟨f6, hf⟩ := fc_un (show (7 : Nat) < 100 from by decide) hf
  have f6 : v_iv (n_v vs 11) ≠ v_iv (n_v vs 12) := f6
  obtain ⟨f7, hf⟩ := fc_un (show (20 : Nat) < 100 from by decide) hf
  have f7 : 1 * v_iv (n_v vs 11) + ((-1) * w_el ws (w_ar ws (n_v vs 0) 2) (w_fi ws (n_v vs 0) 5 + 1).toNat + 0) ≤ 0 := f7
  obtain ⟨f8, hf⟩ := fc_un (show (20 : Nat) < 100 from by decide) hf
  have f8 : (-1) * v_iv (n_v vs 11) + (1 * w_el ws (w_ar ws (n_v vs 0) 2) (w_fi ws (n_v vs 0) 5 + 1).toNat + 0) ≤ 0 := f8
  obtain ⟨f9, hf⟩ := fc_un (show (7 : Nat) < 100 from by decide) hf
  have f9 : v_iv (n_v vs 9) ≠ v_iv (n_v vs 10) := f9
  obtain ⟨f10, hf⟩ := fc_un (show (20 : Nat) < 100 from by decide) hf
  have f10 : 1 * v_iv (n_v vs 9) + ((-1) * w_el ws (w_ar ws (n_v vs 0) 2) (w_fi ws (n_v vs 0) 5 + 0).toNat + 0) ≤ 0 := f10
  obtain ⟨f11, hf⟩ := fc_un (show (20 : Nat) < 100 from by decide) hf
  have f11 : (-1) * v_iv (n_v vs 9) + (1 * w_el ws (w_ar ws (n_v vs 0) 2) (w_fi ws (n_v vs 0) 5 + 0).toNat + 0) ≤ 0 := f11
  obtain ⟨f12, hf⟩ := fc_un (show (8 : Nat) < 100 from by decide) hf
  have f12 : v_iv (n_v vs 6) ≠ 0 := f12
  obtain ⟨f13, hf⟩ := fc_un (show (20 : Nat) < 100 from by decide) hf
  have f13 : 1 * w_fi ws (n_v vs 0) 15 + ((-1) * w_fi ws (n_v vs 0) 11 + 0) ≤ 0 := f13
  obtain ⟨f14, hf⟩ := fc_un (show (20 : Nat) < 100 from by decide) hf
  have f14 : ((w_fi ws (n_v vs 0) 12 = 1) → (w_fi ws (n_v vs 0) 11 ≤ (w_fi ws (n_v vs 0) 15 + 8))) ∧ ((w_fi ws (n_v vs 0) 12 = 0) ∨ ((w_fi ws (n_v vs 0) 15 + 1) ≤ w_fi ws (n_v vs 0) 11)) := f14
  obtain ⟨f15, hf⟩ := fc_un (show (20 : Nat) < 100 from by decide) hf
  have f15 : 1 * v_iv (n_v vs 3) + ((-1) * w_fi ws (n_v vs 0) 11 + 0) ≤ 0 := f15
  obtain ⟨f16, hf⟩ := fc_un (show (20 : Nat) < 100 from by decide) hf
  have f16 : (w_fi ws (n_v vs 0) 12 = 0) ∨ ((v_iv (n_v vs 4) + 1) ≤ w_fi ws (n_v vs 0) 11) := f16
  obtain ⟨f17, hf⟩ := fc_un (show (20 : Nat) < 100 from by decide) hf
  have f17 : (v_iv (n_v vs 1) + 1) ≤ w_ei ws (w_ar ws (n_v vs 0) 2) ((w_fi ws (n_v vs 0) 5 + 2)) := f17
  obtain ⟨f18, hf⟩ := fc_un (show (20 : Nat) < 100 from by decide) hf
  have f18 : (v_iv (n_v vs 6) = 1) → (w_fi ws (n_v vs 0) 12 = 1) := f18
  have cr_0_2 : ta (w_ar ws (n_v vs 0) 2) = some 152 := tv_rg (th_fd hD hth r0 (g := GG_150) rfl (k := 2) (t := (2, 0, 0, [152])) rfl rfl)
  have ad_14 : v_ad (n_v vs 14) = w_ar ws (n_v vs 0) 2 := congrArg v_ad f3
  rw [ad_14] at f1
  have h1 : v_iv (n_v vs 16) = w_ei ws (w_ar ws (n_v vs 0) 2) (v_iv (n_v vs 15)) := f1
  have g2 : v_iv (n_v vs 15) = w_fi ws (n_v vs 0) 5 := congrArg v_iv f2
  have cg1_F5_1 : v_iv (n_v vs 15) = w_fi ws (n_v vs 0) 5 + 1 → w_el ws (w_ar ws (n_v vs 0) 2) (v_iv (n_v vs 15)).toNat = w_el ws (w_ar ws (n_v vs 0) 2) (w_fi ws (n_v vs 0) 5 + 1).toNat := fun h => by rw [h]
  have cg1_F5_0 : v_iv (n_v vs 15) = w_fi ws (n_v vs 0) 5 + 0 → w_el ws (w_ar ws (n_v vs 0) 2) (v_iv (n_v vs 15)).toNat = w_el ws (w_ar ws (n_v vs 0) 2) (w_fi ws (n_v vs 0) 5 + 0).toNat := fun h => by rw [h]
  have br_0_2_F5_0_0 : w_ei ws (w_ar ws (n_v vs 0) 2) (w_fi ws (n_v vs 0) 5 + 0) = w_el ws (w_ar ws (n_v vs 0) 2) (w_fi ws (n_v vs 0) 5 + 0).toNat := rfl
  have br_0_2_F5_1_0 : w_ei ws (w_ar ws (n_v vs 0) 2) (w_fi ws (n_v vs 0) 5 + 1) = w_el ws (w_ar ws (n_v vs 0) 2) (w_fi ws (n_v vs 0) 5 + 1).toNat := rfl
  have br_0_2_15_0 : w_ei ws (w_ar ws (n_v vs 0) 2) (v_iv (n_v vs 15)) = w_el ws (w_ar ws (n_v vs 0) 2) (v_iv (n_v vs 15)).toNat := rfl
  have kz_0_11 : 0 ≤ w_fi ws (n_v vs 0) 11 ∧ w_fi ws (n_v vs 0) 11 ≤ 2000 := tv_rng (th_fd hD hth r0 (g := GG_150) rfl (k := 11) (t := (0, 0, 2000, [])) rfl rfl)
  have kz_0_12 : 0 ≤ w_fi ws (n_v vs 0) 12 ∧ w_fi ws (n_v vs 0) 12 ≤ 4 := tv_rng (th_fd hD hth r0 (g := GG_150) rfl (k := 12) (t := (0, 0, 4, [])) rfl rfl)
  have kz_0_15 : 0 ≤ w_fi ws (n_v vs 0) 15 ∧ w_fi ws (n_v vs 0) 15 ≤ 2000 := tv_rng (th_fd hD hth r0 (g := GG_150) rfl (k := 15) (t := (0, 0, 2000, [])) rfl rfl)
  have rf18 : tv_ok ta (0, 1, 24, []) (n_v vs 18) := tv_in t18 (by first | omega | grind) (by first | omega | grind)
  refine ⟨List.forall_mem_cons.mpr ⟨rf18, (fun _ h => (by cases h))⟩, [], trivial, ?_, (fun _ h => (by cases h))⟩
  rw [List.append_nil]
  exact (fun _ h => (by cases h))
def o_Mo_met_11 : or_T := (167, 25, [(0, (2, 0, 0, [150])), (1, (0, 0, 7, [])), (3, (0, 0, 2000, [])), (4, (0, 0, 2000, [])), (6, (0, 1, 1, [])), (9, (0, 0, 23, [])), (10, (0, 24, 24, [])), (11, (0, 0, 47, [])), (12, (0, 48, 48, [])), (13, (0, 0, 23, [])), (14, (2, 0, 0, [152])), (15, (0, 0, 66297, [])), (16, (0, 0, 24, [])), (17, (0, 1, 1, [])), (18, (0, 1, 24, [])), (22, (0, 0, 2000, [])), (23, (0, 0, 2000, [])), (24, (0, -2000, 2000, []))], [(2, [24, 22, 23], []), (9, [23, 0], [15]), (9, [22, 0], [11]), (9, [15, 0], [5]), (9, [14, 0], [2]), (20, [0, 0], [30, 0, 1, 1, 15, -1, 1, 11]), (20, [0], [50, 3, 0, 12, 11, 15, 2, 21, 4, 7, 1, 3, 2, 0, 12, 0, 1, 0, 3, 2, 0, 11, 4, 3, 2, 0, 15, 0, 8, 3, 7, 1, 3, 2, 0, 12, 0, 0, 0, 7, 4, 3, 2, 0, 15, 0, 1, 2, 0, 11]), (20, [3, 0], [30, 0, 1, 0, 0, -1, 1, 11]), (20, [0, 4], [50, 2, 0, 12, 11, 3, 7, 1, 3, 2, 0, 12, 0, 0, 0, 6, 4, 2, 1, 1, 0, 1, 2, 0, 11]), (20, [6, 0], [50, 1, 0, 1012, 4, 6, 1, 2, 1, 0, 0, 1, 1, 3, 2, 1, 12, 0, 1]), (100, [14, 15, 18], []), (1, [18, 16, 17], []), (10, [16, 14, 15], []), (20, [13, 0], [30, 0, 1, 0, 0, -1, 3, 2005000]), (20, [13, 0], [30, 0, -1, 0, 0, 1, 3, 2005000]), (7, [11, 12], [1]), (20, [11, 0], [30, 0, 1, 0, 0, -1, 3, 2005001]), (20, [11, 0], [30, 0, -1, 0, 0, 1, 3, 2005001]), (7, [9, 10], [1]), (20, [9, 0], [30, 0, 1, 0, 0, -1, 3, 2005000]), (20, [9, 0], [30, 0, -1, 0, 0, 1, 3, 2005000]), (8, [6], [1]), (20, [0, 0], [30, 0, 1, 1, 15, -1, 1, 11]), (20, [0], [50, 3, 0, 12, 11, 15, 2, 21, 4, 7, 1, 3, 2, 0, 12, 0, 1, 0, 3, 2, 0, 11, 4, 3, 2, 0, 15, 0, 8, 3, 7, 1, 3, 2, 0, 12, 0, 0, 0, 7, 4, 3, 2, 0, 15, 0, 1, 2, 0, 11]), (20, [3, 0], [30, 0, 1, 0, 0, -1, 1, 11]), (20, [0, 4], [50, 2, 0, 12, 11, 3, 7, 1, 3, 2, 0, 12, 0, 0, 0, 6, 4, 2, 1, 1, 0, 1, 2, 0, 11]), (20, [1, 0], [50, 1, 1, 1005, 1002, 0, 6, 4, 2, 1, 0, 0, 1, 3, 1, 2, 4, 3, 2, 1, 5, 0, 2]), (20, [6, 0], [50, 1, 0, 1012, 4, 6, 1, 2, 1, 0, 0, 1, 1, 3, 2, 1, 12, 0, 1])], [(24, (0, 0, 8, []))], [], [], [], [(24, 22, -2000, 0), (18, 16, 1, 1)])
theorem oo_Mo_met_11 {kA : Nat → ClassId} : or_ok kA GG o_Mo_met_11 := by
  intro A ta ws vs hD hth hl hk hds hf
  have hl : vs.length = 25 := hl
  have hk : ∀ q ∈ ([(0, (2, 0, 0, [150])), (1, (0, 0, 7, [])), (3, (0, 0, 2000, [])), (4, (0, 0, 2000, [])), (6, (0, 1, 1, [])), (9, (0, 0, 23, [])), (10, (0, 24, 24, [])), (11, (0, 0, 47, [])), (12, (0, 48, 48, [])), (13, (0, 0, 23, [])), (14, (2, 0, 0, [152])), (15, (0, 0, 66297, [])), (16, (0, 0, 24, [])), (17, (0, 1, 1, [])), (18, (0, 1, 24, [])), (22, (0, 0, 2000, [])), (23, (0, 0, 2000, [])), (24, (0, -2000, 2000, []))] : List (Nat × tv_T)), tv_ok ta q.2 (n_v vs q.1) := hk
  obtain ⟨t0, hk⟩ := List.forall_mem_cons.mp hk
  have t0 : tv_ok ta (2, 0, 0, [150]) (n_v vs 0) := t0
  have r0 : ta (v_ad (n_v vs 0)) = some 150 := tv_rg t0
  obtain ⟨t1, hk⟩ := List.forall_mem_cons.mp hk
  have t1 : tv_ok ta (0, 0, 7, []) (n_v vs 1) := t1
  have k1 : 0 ≤ v_iv (n_v vs 1) ∧ v_iv (n_v vs 1) ≤ 7 := tv_rng t1
  obtain ⟨t3, hk⟩ := List.forall_mem_cons.mp hk
  have t3 : tv_ok ta (0, 0, 2000, []) (n_v vs 3) := t3
  have k3 : 0 ≤ v_iv (n_v vs 3) ∧ v_iv (n_v vs 3) ≤ 2000 := tv_rng t3
  obtain ⟨t4, hk⟩ := List.forall_mem_cons.mp hk
  have t4 : tv_ok ta (0, 0, 2000, []) (n_v vs 4) := t4
  have k4 : 0 ≤ v_iv (n_v vs 4) ∧ v_iv (n_v vs 4) ≤ 2000 := tv_rng t4
  obtain ⟨t6, hk⟩ := List.forall_mem_cons.mp hk
  have t6 : tv_ok ta (0, 1, 1, []) (n_v vs 6) := t6
  have k6 : 1 ≤ v_iv (n_v vs 6) ∧ v_iv (n_v vs 6) ≤ 1 := tv_rng t6
  obtain ⟨t9, hk⟩ := List.forall_mem_cons.mp hk
  have t9 : tv_ok ta (0, 0, 23, []) (n_v vs 9) := t9
  have k9 : 0 ≤ v_iv (n_v vs 9) ∧ v_iv (n_v vs 9) ≤ 23 := tv_rng t9
  obtain ⟨t10, hk⟩ := List.forall_mem_cons.mp hk
  have t10 : tv_ok ta (0, 24, 24, []) (n_v vs 10) := t10
  have k10 : 24 ≤ v_iv (n_v vs 10) ∧ v_iv (n_v vs 10) ≤ 24 := tv_rng t10
  obtain ⟨t11, hk⟩ := List.forall_mem_cons.mp hk
  have t11 : tv_ok ta (0, 0, 47, []) (n_v vs 11) := t11
  have k11 : 0 ≤ v_iv (n_v vs 11) ∧ v_iv (n_v vs 11) ≤ 47 := tv_rng t11
  obtain ⟨t12, hk⟩ := List.forall_mem_cons.mp hk
  have t12 : tv_ok ta (0, 48, 48, []) (n_v vs 12) := t12
  have k12 : 48 ≤ v_iv (n_v vs 12) ∧ v_iv (n_v vs 12) ≤ 48 := tv_rng t12
  obtain ⟨t13, hk⟩ := List.forall_mem_cons.mp hk
  have t13 : tv_ok ta (0, 0, 23, []) (n_v vs 13) := t13
  have k13 : 0 ≤ v_iv (n_v vs 13) ∧ v_iv (n_v vs 13) ≤ 23 := tv_rng t13
  obtain ⟨t14, hk⟩ := List.forall_mem_cons.mp hk
  have t14 : tv_ok ta (2, 0, 0, [152]) (n_v vs 14) := t14
  have r14 : ta (v_ad (n_v vs 14)) = some 152 := tv_rg t14
  obtain ⟨t15, hk⟩ := List.forall_mem_cons.mp hk
  have t15 : tv_ok ta (0, 0, 66297, []) (n_v vs 15) := t15
  have k15 : 0 ≤ v_iv (n_v vs 15) ∧ v_iv (n_v vs 15) ≤ 66297 := tv_rng t15
  obtain ⟨t16, hk⟩ := List.forall_mem_cons.mp hk
  have t16 : tv_ok ta (0, 0, 24, []) (n_v vs 16) := t16
  have k16 : 0 ≤ v_iv (n_v vs 16) ∧ v_iv (n_v vs 16) ≤ 24 := tv_rng t16
  obtain ⟨t17, hk⟩ := List.forall_mem_cons.mp hk
  have t17 : tv_ok ta (0, 1, 1, []) (n_v vs 17) := t17
  have k17 : 1 ≤ v_iv (n_v vs 17) ∧ v_iv (n_v vs 17) ≤ 1 := tv_rng t17
  obtain ⟨t18, hk⟩ := List.forall_mem_cons.mp hk
  have t18 : tv_ok ta (0, 1, 24, []) (n_v vs 18) := t18
  have k18 : 1 ≤ v_iv (n_v vs 18) ∧ v_iv (n_v vs 18) ≤ 24 := tv_rng t18
  obtain ⟨t22, hk⟩ := List.forall_mem_cons.mp hk
  have t22 : tv_ok ta (0, 0, 2000, []) (n_v vs 22) := t22
  have k22 : 0 ≤ v_iv (n_v vs 22) ∧ v_iv (n_v vs 22) ≤ 2000 := tv_rng t22
  obtain ⟨t23, hk⟩ := List.forall_mem_cons.mp hk
  have t23 : tv_ok ta (0, 0, 2000, []) (n_v vs 23) := t23
  have k23 : 0 ≤ v_iv (n_v vs 23) ∧ v_iv (n_v vs 23) ≤ 2000 := tv_rng t23
  obtain ⟨t24, hk⟩ := List.forall_mem_cons.mp hk
  have t24 : tv_ok ta (0, -2000, 2000, []) (n_v vs 24) := t24
  have k24 : (-2000) ≤ v_iv (n_v vs 24) ∧ v_iv (n_v vs 24) ≤ 2000 := tv_rng t24
  have hds : ∀ q ∈ ([(24, 22, -2000, 0), (18, 16, 1, 1)] : List of_T), n_iv vs q.2.1 + q.2.2.1 ≤ n_iv vs q.1 ∧ n_iv vs q.1 ≤ n_iv vs q.2.1 + q.2.2.2 := hds
  obtain ⟨d0, hds⟩ := List.forall_mem_cons.mp hds
  have d0 : v_iv (n_v vs 22) + (-2000) ≤ v_iv (n_v vs 24) ∧ v_iv (n_v vs 24) ≤ v_iv (n_v vs 22) + 0 := d0
  obtain ⟨d1, hds⟩ := List.forall_mem_cons.mp hds
  have d1 : v_iv (n_v vs 16) + 1 ≤ v_iv (n_v vs 18) ∧ v_iv (n_v vs 18) ≤ v_iv (n_v vs 16) + 1 := d1
  have hf : fc_ok [(2, [24, 22, 23], []), (9, [23, 0], [15]), (9, [22, 0], [11]), (9, [15, 0], [5]), (9, [14, 0], [2]), (20, [0, 0], [30, 0, 1, 1, 15, -1, 1, 11]), (20, [0], [50, 3, 0, 12, 11, 15, 2, 21, 4, 7, 1, 3, 2, 0, 12, 0, 1, 0, 3, 2, 0, 11, 4, 3, 2, 0, 15, 0, 8, 3, 7, 1, 3, 2, 0, 12, 0, 0, 0, 7, 4, 3, 2, 0, 15, 0, 1, 2, 0, 11]), (20, [3, 0], [30, 0, 1, 0, 0, -1, 1, 11]), (20, [0, 4], [50, 2, 0, 12, 11, 3, 7, 1, 3, 2, 0, 12, 0, 0, 0, 6, 4, 2, 1, 1, 0, 1, 2, 0, 11]), (20, [6, 0], [50, 1, 0, 1012, 4, 6, 1, 2, 1, 0, 0, 1, 1, 3, 2, 1, 12, 0, 1]), (100, [14, 15, 18], []), (1, [18, 16, 17], []), (10, [16, 14, 15], []), (20, [13, 0], [30, 0, 1, 0, 0, -1, 3, 2005000]), (20, [13, 0], [30, 0, -1, 0, 0, 1, 3, 2005000]), (7, [11, 12], [1]), (20, [11, 0], [30, 0, 1, 0, 0, -1, 3, 2005001]), (20, [11, 0], [30, 0, -1, 0, 0, 1, 3, 2005001]), (7, [9, 10], [1]), (20, [9, 0], [30, 0, 1, 0, 0, -1, 3, 2005000]), (20, [9, 0], [30, 0, -1, 0, 0, 1, 3, 2005000]), (8, [6], [1]), (20, [0, 0], [30, 0, 1, 1, 15, -1, 1, 11]), (20, [0], [50, 3, 0, 12, 11, 15, 2, 21, 4, 7, 1, 3, 2, 0, 12, 0, 1, 0, 3, 2, 0, 11, 4, 3, 2, 0, 15, 0, 8, 3, 7, 1, 3, 2, 0, 12, 0, 0, 0, 7, 4, 3, 2, 0, 15, 0, 1, 2, 0, 11]), (20, [3, 0], [30, 0, 1, 0, 0, -1, 1, 11]), (20, [0, 4], [50, 2, 0, 12, 11, 3, 7, 1, 3, 2, 0, 12, 0, 0, 0, 6, 4, 2, 1, 1, 0, 1, 2, 0, 11]), (20, [1, 0], [50, 1, 1, 1005, 1002, 0, 6, 4, 2, 1, 0, 0, 1, 3, 1, 2, 4, 3, 2, 1, 5, 0, 2]), (20, [6, 0], [50, 1, 0, 1012, 4, 6, 1, 2, 1, 0, 0, 1, 1, 3, 2, 1, 12, 0, 1])] ta ws vs := hf
  obtain ⟨f0, hf⟩ := fc_un (show (2 : Nat) < 100 from by decide) hf
  have f0 : v_iv (n_v vs 24) = v_iv (n_v vs 22) - v_iv (n_v vs 23) := f0
  obtain ⟨f1, hf⟩ := fc_un (show (9 : Nat) < 100 from by decide) hf
  have f1 : n_v vs 23 = w_fd ws (v_ad (n_v vs 0)) 15 := f1
  obtain ⟨f2, hf⟩ := fc_un (show (9 : Nat) < 100 from by decide) hf
  have f2 : n_v vs 22 = w_fd ws (v_ad (n_v vs 0)) 11 := f2
  obtain ⟨f3, hf⟩ := fc_un (show (9 : Nat) < 100 from by decide) hf
  have f3 : n_v vs 15 = w_fd ws (v_ad (n_v vs 0)) 5 := f3
  obtain ⟨f4, hf⟩ := fc_un (show (9 : Nat) < 100 from by decide) hf
  have f4 : n_v vs 14 = w_fd ws (v_ad (n_v vs 0)) 2 := f4
  obtain ⟨f5, hf⟩ := fc_un (show (20 : Nat) < 100 from by decide) hf
  have f5 : 1 * w_fi ws (n_v vs 0) 15 + ((-1) * w_fi ws (n_v vs 0) 11 + 0) ≤ 0 := f5
  obtain ⟨f6, hf⟩ := fc_un (show (20 : Nat) < 100 from by decide) hf
  have f6 : ((w_fi ws (n_v vs 0) 12 = 1) → (w_fi ws (n_v vs 0) 11 ≤ (w_fi ws (n_v vs 0) 15 + 8))) ∧ ((w_fi ws (n_v vs 0) 12 = 0) ∨ ((w_fi ws (n_v vs 0) 15 + 1) ≤ w_fi ws (n_v vs 0) 11)) := f6
  obtain ⟨f7, hf⟩ := fc_un (show (20 : Nat) < 100 from by decide) hf
  have f7 : 1 * v_iv (n_v vs 3) + ((-1) * w_fi ws (n_v vs 0) 11 + 0) ≤ 0 := f7
  obtain ⟨f8, hf⟩ := fc_un (show (20 : Nat) < 100 from by decide) hf
  have f8 : (w_fi ws (n_v vs 0) 12 = 0) ∨ ((v_iv (n_v vs 4) + 1) ≤ w_fi ws (n_v vs 0) 11) := f8
  obtain ⟨f9, hf⟩ := fc_un (show (20 : Nat) < 100 from by decide) hf
  have f9 : (v_iv (n_v vs 6) = 1) → (w_fi ws (n_v vs 0) 12 = 1) := f9
  obtain ⟨ta1, w1, le1, ⟨_, s1⟩, hf⟩ := fc_us (show ¬ (100 : Nat) < 100 from by decide) hf
  have s1 : (∀ b j, w_el ws b j = if b = v_ad (n_v vs 14) ∧ j = (v_iv (n_v vs 15)).toNat then v_iv (n_v vs 18) else w_el w1 b j) ∧ ∀ b k, w_fd ws b k = w_fd w1 b k := s1
  obtain ⟨f11, hf⟩ := fc_un (show (1 : Nat) < 100 from by decide) hf
  have f11 : v_iv (n_v vs 18) = v_iv (n_v vs 16) + v_iv (n_v vs 17) := f11
  obtain ⟨f12, hf⟩ := fc_un (show (10 : Nat) < 100 from by decide) hf
  have f12 : v_iv (n_v vs 16) = w_el w1 (v_ad (n_v vs 14)) (v_iv (n_v vs 15)).toNat := f12
  obtain ⟨f13, hf⟩ := fc_un (show (20 : Nat) < 100 from by decide) hf
  have f13 : 1 * v_iv (n_v vs 13) + ((-1) * w_el w1 (w_ar w1 (n_v vs 0) 2) (w_fi w1 (n_v vs 0) 5 + 0).toNat + 0) ≤ 0 := f13
  obtain ⟨f14, hf⟩ := fc_un (show (20 : Nat) < 100 from by decide) hf
  have f14 : (-1) * v_iv (n_v vs 13) + (1 * w_el w1 (w_ar w1 (n_v vs 0) 2) (w_fi w1 (n_v vs 0) 5 + 0).toNat + 0) ≤ 0 := f14
  obtain ⟨f15, hf⟩ := fc_un (show (7 : Nat) < 100 from by decide) hf
  have f15 : v_iv (n_v vs 11) ≠ v_iv (n_v vs 12) := f15
  obtain ⟨f16, hf⟩ := fc_un (show (20 : Nat) < 100 from by decide) hf
  have f16 : 1 * v_iv (n_v vs 11) + ((-1) * w_el w1 (w_ar w1 (n_v vs 0) 2) (w_fi w1 (n_v vs 0) 5 + 1).toNat + 0) ≤ 0 := f16
  obtain ⟨f17, hf⟩ := fc_un (show (20 : Nat) < 100 from by decide) hf
  have f17 : (-1) * v_iv (n_v vs 11) + (1 * w_el w1 (w_ar w1 (n_v vs 0) 2) (w_fi w1 (n_v vs 0) 5 + 1).toNat + 0) ≤ 0 := f17
  obtain ⟨f18, hf⟩ := fc_un (show (7 : Nat) < 100 from by decide) hf
  have f18 : v_iv (n_v vs 9) ≠ v_iv (n_v vs 10) := f18
  obtain ⟨f19, hf⟩ := fc_un (show (20 : Nat) < 100 from by decide) hf
  have f19 : 1 * v_iv (n_v vs 9) + ((-1) * w_el w1 (w_ar w1 (n_v vs 0) 2) (w_fi w1 (n_v vs 0) 5 + 0).toNat + 0) ≤ 0 := f19
  obtain ⟨f20, hf⟩ := fc_un (show (20 : Nat) < 100 from by decide) hf
  have f20 : (-1) * v_iv (n_v vs 9) + (1 * w_el w1 (w_ar w1 (n_v vs 0) 2) (w_fi w1 (n_v vs 0) 5 + 0).toNat + 0) ≤ 0 := f20
  obtain ⟨f21, hf⟩ := fc_un (show (8 : Nat) < 100 from by decide) hf
  have f21 : v_iv (n_v vs 6) ≠ 0 := f21
  obtain ⟨f22, hf⟩ := fc_un (show (20 : Nat) < 100 from by decide) hf
  have f22 : 1 * w_fi w1 (n_v vs 0) 15 + ((-1) * w_fi w1 (n_v vs 0) 11 + 0) ≤ 0 := f22
  obtain ⟨f23, hf⟩ := fc_un (show (20 : Nat) < 100 from by decide) hf
  have f23 : ((w_fi w1 (n_v vs 0) 12 = 1) → (w_fi w1 (n_v vs 0) 11 ≤ (w_fi w1 (n_v vs 0) 15 + 8))) ∧ ((w_fi w1 (n_v vs 0) 12 = 0) ∨ ((w_fi w1 (n_v vs 0) 15 + 1) ≤ w_fi w1 (n_v vs 0) 11)) := f23
  obtain ⟨f24, hf⟩ := fc_un (show (20 : Nat) < 100 from by decide) hf
  have f24 : 1 * v_iv (n_v vs 3) + ((-1) * w_fi w1 (n_v vs 0) 11 + 0) ≤ 0 := f24
  obtain ⟨f25, hf⟩ := fc_un (show (20 : Nat) < 100 from by decide) hf
  have f25 : (w_fi w1 (n_v vs 0) 12 = 0) ∨ ((v_iv (n_v vs 4) + 1) ≤ w_fi w1 (n_v vs 0) 11) := f25
  obtain ⟨f26, hf⟩ := fc_un (show (20 : Nat) < 100 from by decide) hf
  have f26 : (v_iv (n_v vs 1) + 1) ≤ w_ei w1 (w_ar w1 (n_v vs 0) 2) ((w_fi w1 (n_v vs 0) 5 + 2)) := f26
  obtain ⟨f27, hf⟩ := fc_un (show (20 : Nat) < 100 from by decide) hf
  have f27 : (v_iv (n_v vs 6) = 1) → (w_fi w1 (n_v vs 0) 12 = 1) := f27
  have ar_0_2_1 : w_ar w1 (n_v vs 0) 2 = w_ar ws (n_v vs 0) 2 := by show v_ad (w_fd w1 _ _) = v_ad (w_fd ws _ _); rw [s1.2]
  have cr_0_2 : ta (w_ar ws (n_v vs 0) 2) = some 152 := tv_rg (th_fd hD hth r0 (g := GG_150) rfl (k := 2) (t := (2, 0, 0, [152])) rfl rfl)
  have fi_0_5_1 : w_fi w1 (n_v vs 0) 5 = w_fi ws (n_v vs 0) 5 := by show v_iv (w_fd w1 _ _) = v_iv (w_fd ws _ _); rw [s1.2]
  have ad_14 : v_ad (n_v vs 14) = w_ar ws (n_v vs 0) 2 := congrArg v_ad f4
  have g1 : v_iv (n_v vs 23) = w_fi ws (n_v vs 0) 15 := congrArg v_iv f1
  have g2 : v_iv (n_v vs 22) = w_fi ws (n_v vs 0) 11 := congrArg v_iv f2
  have g3 : v_iv (n_v vs 15) = w_fi ws (n_v vs 0) 5 := congrArg v_iv f3
  rw [ad_14] at f12
  have h12 : v_iv (n_v vs 16) = w_ei w1 (w_ar ws (n_v vs 0) 2) (v_iv (n_v vs 15)) := f12
  rw [ar_0_2_1] at f13
  rw [fi_0_5_1] at f13
  rw [ar_0_2_1] at f14
  rw [fi_0_5_1] at f14
  rw [ar_0_2_1] at f16
  rw [fi_0_5_1] at f16
  rw [ar_0_2_1] at f17
  rw [fi_0_5_1] at f17
  rw [ar_0_2_1] at f19
  rw [fi_0_5_1] at f19
  rw [ar_0_2_1] at f20
  rw [fi_0_5_1] at f20
  rw [ar_0_2_1] at f26
  have cg12_F5_1 : v_iv (n_v vs 15) = w_fi ws (n_v vs 0) 5 + 1 → w_el w1 (w_ar ws (n_v vs 0) 2) (v_iv (n_v vs 15)).toNat = w_el w1 (w_ar ws (n_v vs 0) 2) (w_fi ws (n_v vs 0) 5 + 1).toNat := fun h => by rw [h]
  have cg12_F5_0 : v_iv (n_v vs 15) = w_fi ws (n_v vs 0) 5 + 0 → w_el w1 (w_ar ws (n_v vs 0) 2) (v_iv (n_v vs 15)).toNat = w_el w1 (w_ar ws (n_v vs 0) 2) (w_fi ws (n_v vs 0) 5 + 0).toNat := fun h => by rw [h]
  have fe_0_5_1 : w_fi ws (n_v vs 0) 5 = w_fi w1 (n_v vs 0) 5 := congrArg v_iv (s1.2 _ _)
  have fe_0_11_1 : w_fi ws (n_v vs 0) 11 = w_fi w1 (n_v vs 0) 11 := congrArg v_iv (s1.2 _ _)
  have fe_0_12_1 : w_fi ws (n_v vs 0) 12 = w_fi w1 (n_v vs 0) 12 := congrArg v_iv (s1.2 _ _)
  have fe_0_15_1 : w_fi ws (n_v vs 0) 15 = w_fi w1 (n_v vs 0) 15 := congrArg v_iv (s1.2 _ _)
  first | (have ee_0_2_F5_0_1 : w_el ws (w_ar ws (n_v vs 0) 2) (w_fi ws (n_v vs 0) 5 + 0).toNat = w_el w1 (w_ar ws (n_v vs 0) 2) (w_fi ws (n_v vs 0) 5 + 0).toNat := by rw [s1.1, if_neg (fun e => absurd e.2 (by omega))]) | have ee_0_2_F5_0_1 : ((w_fi ws (n_v vs 0) 5 + 0).toNat = (v_iv (n_v vs 15)).toNat → w_el ws (w_ar ws (n_v vs 0) 2) (w_fi ws (n_v vs 0) 5 + 0).toNat = v_iv (n_v vs 18)) ∧ ((w_fi ws (n_v vs 0) 5 + 0).toNat ≠ (v_iv (n_v vs 15)).toNat → w_el ws (w_ar ws (n_v vs 0) 2) (w_fi ws (n_v vs 0) 5 + 0).toNat = w_el w1 (w_ar ws (n_v vs 0) 2) (w_fi ws (n_v vs 0) 5 + 0).toNat) := ⟨fun h => by rw [s1.1, if_pos ⟨ad_14.symm, h⟩], fun h => by rw [s1.1, if_neg (fun e => h e.2)]⟩
  first | (have ee_0_2_F5_1_1 : w_el ws (w_ar ws (n_v vs 0) 2) (w_fi ws (n_v vs 0) 5 + 1).toNat = w_el w1 (w_ar ws (n_v vs 0) 2) (w_fi ws (n_v vs 0) 5 + 1).toNat := by rw [s1.1, if_neg (fun e => absurd e.2 (by omega))]) | have ee_0_2_F5_1_1 : ((w_fi ws (n_v vs 0) 5 + 1).toNat = (v_iv (n_v vs 15)).toNat → w_el ws (w_ar ws (n_v vs 0) 2) (w_fi ws (n_v vs 0) 5 + 1).toNat = v_iv (n_v vs 18)) ∧ ((w_fi ws (n_v vs 0) 5 + 1).toNat ≠ (v_iv (n_v vs 15)).toNat → w_el ws (w_ar ws (n_v vs 0) 2) (w_fi ws (n_v vs 0) 5 + 1).toNat = w_el w1 (w_ar ws (n_v vs 0) 2) (w_fi ws (n_v vs 0) 5 + 1).toNat) := ⟨fun h => by rw [s1.1, if_pos ⟨ad_14.symm, h⟩], fun h => by rw [s1.1, if_neg (fun e => h e.2)]⟩
  have ee_0_2_15_1 : w_el ws (w_ar ws (n_v vs 0) 2) (v_iv (n_v vs 15)).toNat = v_iv (n_v vs 18) := by rw [s1.1, if_pos ⟨ad_14.symm, rfl⟩]
  have br_0_2_F5_0_0 : w_ei ws (w_ar ws (n_v vs 0) 2) (w_fi ws (n_v vs 0) 5 + 0) = w_el ws (w_ar ws (n_v vs 0) 2) (w_fi ws (n_v vs 0) 5 + 0).toNat := rfl
  have br_0_2_F5_0_1 : w_ei w1 (w_ar ws (n_v vs 0) 2) (w_fi ws (n_v vs 0) 5 + 0) = w_el w1 (w_ar ws (n_v vs 0) 2) (w_fi ws (n_v vs 0) 5 + 0).toNat := rfl
  have br_0_2_F5_1_0 : w_ei ws (w_ar ws (n_v vs 0) 2) (w_fi ws (n_v vs 0) 5 + 1) = w_el ws (w_ar ws (n_v vs 0) 2) (w_fi ws (n_v vs 0) 5 + 1).toNat := rfl
  have br_0_2_F5_1_1 : w_ei w1 (w_ar ws (n_v vs 0) 2) (w_fi ws (n_v vs 0) 5 + 1) = w_el w1 (w_ar ws (n_v vs 0) 2) (w_fi ws (n_v vs 0) 5 + 1).toNat := rfl
  have br_0_2_15_0 : w_ei ws (w_ar ws (n_v vs 0) 2) (v_iv (n_v vs 15)) = w_el ws (w_ar ws (n_v vs 0) 2) (v_iv (n_v vs 15)).toNat := rfl
  have br_0_2_15_1 : w_ei w1 (w_ar ws (n_v vs 0) 2) (v_iv (n_v vs 15)) = w_el w1 (w_ar ws (n_v vs 0) 2) (v_iv (n_v vs 15)).toNat := rfl
  have hE_0_2_1 : ∀ j : Int, 0 ≤ j → (j = v_iv (n_v vs 15) → w_ei ws (w_ar ws (n_v vs 0) 2) j = v_iv (n_v vs 18)) ∧ (j ≠ v_iv (n_v vs 15) → w_ei ws (w_ar ws (n_v vs 0) 2) j = w_ei w1 (w_ar ws (n_v vs 0) 2) j) := fun j hj => ⟨fun h => by unfold w_ei; rw [s1.1, if_pos ⟨ad_14.symm, by rw [h]⟩], fun h => by unfold w_ei; rw [s1.1, if_neg (fun e => h (by have := e.2; omega))]⟩
  have kz_0_11 : 0 ≤ w_fi ws (n_v vs 0) 11 ∧ w_fi ws (n_v vs 0) 11 ≤ 2000 := tv_rng (th_fd hD hth r0 (g := GG_150) rfl (k := 11) (t := (0, 0, 2000, [])) rfl rfl)
  have kz_0_12 : 0 ≤ w_fi ws (n_v vs 0) 12 ∧ w_fi ws (n_v vs 0) 12 ≤ 4 := tv_rng (th_fd hD hth r0 (g := GG_150) rfl (k := 12) (t := (0, 0, 4, [])) rfl rfl)
  have kz_0_15 : 0 ≤ w_fi ws (n_v vs 0) 15 ∧ w_fi ws (n_v vs 0) 15 ≤ 2000 := tv_rng (th_fd hD hth r0 (g := GG_150) rfl (k := 15) (t := (0, 0, 2000, [])) rfl rfl)
  first | have hJ0 : w_ei w1 (w_ar ws (n_v vs 0) 2) ((w_fi w1 (n_v vs 0) 5 + 2)) = w_ei w1 (w_ar ws (n_v vs 0) 2) ((w_fi ws (n_v vs 0) 5 + 2)) := congrArg _ (show ((w_fi w1 (n_v vs 0) 5 + 2) : Int) = (w_fi ws (n_v vs 0) 5 + 2) from by omega) | skip
  first | have hI1 := (hE_0_2_1 ((w_fi ws (n_v vs 0) 5 + 2)) (by omega)).2 (by omega) | have hI1 := (hE_0_2_1 ((w_fi ws (n_v vs 0) 5 + 2)) (by omega)).1 (by omega) | skip
  have rf24 : tv_ok ta (0, 0, 8, []) (n_v vs 24) := tv_in t24 (by first | omega | grind) (by first | omega | grind)
  refine ⟨List.forall_mem_cons.mpr ⟨rf24, (fun _ h => (by cases h))⟩, [], trivial, ?_, (fun _ h => (by cases h))⟩
  rw [List.append_nil]
  exact (fun _ h => (by cases h))
def o_Mo_met_12 : or_T := (171, 26, [(0, (2, 0, 0, [150])), (1, (0, 0, 7, [])), (2, (0, 0, 23, [])), (3, (0, 0, 2000, [])), (4, (0, 0, 2000, [])), (6, (0, 1, 1, [])), (9, (0, 0, 23, [])), (10, (0, 24, 24, [])), (11, (0, 0, 47, [])), (12, (0, 48, 48, [])), (13, (0, 0, 23, [])), (14, (2, 0, 0, [152])), (15, (0, 0, 66297, [])), (16, (0, 0, 24, [])), (17, (0, 1, 1, [])), (18, (0, 1, 24, [])), (19, (0, 195, 195, [])), (20, (0, 195, 66492, [])), (21, (0, 195, 66515, [])), (22, (0, 0, 2000, [])), (23, (0, 0, 2000, [])), (24, (0, 0, 8, []))], [(20, [0, 0], [30, 0, 1, 1, 15, -1, 1, 11]), (20, [0], [50, 3, 0, 12, 11, 15, 2, 21, 4, 7, 1, 3, 2, 0, 12, 0, 1, 0, 3, 2, 0, 11, 4, 3, 2, 0, 15, 0, 8, 3, 7, 1, 3, 2, 0, 12, 0, 0, 0, 7, 4, 3, 2, 0, 15, 0, 1, 2, 0, 11]), (20, [3, 0], [30, 0, 1, 0, 0, -1, 1, 11]), (20, [0, 4], [50, 2, 0, 12, 11, 3, 7, 1, 3, 2, 0, 12, 0, 0, 0, 6, 4, 2, 1, 1, 0, 1, 2, 0, 11]), (20, [6, 0], [50, 1, 0, 1012, 4, 6, 1, 2, 1, 0, 0, 1, 1, 3, 2, 1, 12, 0, 1]), (100, [14, 21, 24], []), (2, [24, 22, 23], []), (9, [23, 0], [15]), (9, [22, 0], [11]), (1, [21, 20, 13], []), (1, [20, 15, 19], []), (9, [15, 0], [5]), (9, [14, 0], [2]), (20, [0, 0], [30, 0, 1, 1, 15, -1, 1, 11]), (20, [0], [50, 3, 0, 12, 11, 15, 2, 21, 4, 7, 1, 3, 2, 0, 12, 0, 1, 0, 3, 2, 0, 11, 4, 3, 2, 0, 15, 0, 8, 3, 7, 1, 3, 2, 0, 12, 0, 0, 0, 7, 4, 3, 2, 0, 15, 0, 1, 2, 0, 11]), (20, [3, 0], [30, 0, 1, 0, 0, -1, 1, 11]), (20, [0, 4], [50, 2, 0, 12, 11, 3, 7, 1, 3, 2, 0, 12, 0, 0, 0, 6, 4, 2, 1, 1, 0, 1, 2, 0, 11]), (20, [6, 0], [50, 1, 0, 1012, 4, 6, 1, 2, 1, 0, 0, 1, 1, 3, 2, 1, 12, 0, 1]), (100, [14, 15, 18], []), (1, [18, 16, 17], []), (10, [16, 14, 15], []), (20, [13, 0], [30, 0, 1, 0, 0, -1, 3, 2005000]), (20, [13, 0], [30, 0, -1, 0, 0, 1, 3, 2005000]), (7, [11, 12], [1]), (20, [11, 0], [30, 0, 1, 0, 0, -1, 3, 2005001]), (20, [11, 0], [30, 0, -1, 0, 0, 1, 3, 2005001]), (8, [2], [3]), (7, [9, 10], [1]), (20, [9, 0], [30, 0, 1, 0, 0, -1, 3, 2005000]), (20, [9, 0], [30, 0, -1, 0, 0, 1, 3, 2005000]), (8, [6], [1]), (20, [0, 0], [30, 0, 1, 1, 15, -1, 1, 11]), (20, [0], [50, 3, 0, 12, 11, 15, 2, 21, 4, 7, 1, 3, 2, 0, 12, 0, 1, 0, 3, 2, 0, 11, 4, 3, 2, 0, 15, 0, 8, 3, 7, 1, 3, 2, 0, 12, 0, 0, 0, 7, 4, 3, 2, 0, 15, 0, 1, 2, 0, 11]), (20, [3, 0], [30, 0, 1, 0, 0, -1, 1, 11]), (20, [0, 4], [50, 2, 0, 12, 11, 3, 7, 1, 3, 2, 0, 12, 0, 0, 0, 6, 4, 2, 1, 1, 0, 1, 2, 0, 11]), (20, [1, 0], [50, 1, 1, 1005, 1002, 0, 6, 4, 2, 1, 0, 0, 1, 3, 1, 2, 4, 3, 2, 1, 5, 0, 2]), (20, [6, 0], [50, 1, 0, 1012, 4, 6, 1, 2, 1, 0, 0, 1, 1, 3, 2, 1, 12, 0, 1])], [], [], [(20, [4, 0], [30, -1, 1, 0, 0, -1, 1, 11]), (20, [0], [50, 1, 0, 12, 1, 3, 2, 0, 12, 0, 1]), (20, [2, 0], [50, 1, 1, 1005, 1002, 3, 6, 0, 2, 1, 0, 0, -1, 0, 10, 3, 1, 2, 4, 3, 2, 1, 5, 0, 1, 0, 47]), (20, [1, 0], [50, 1, 1, 1005, 1002, 0, 6, 4, 2, 1, 0, 0, 1, 3, 1, 2, 4, 3, 2, 1, 5, 0, 2]), (24, [0, 0], []), (24, [1, 1], []), (24, [2, 2], [])], [], [(24, 22, -2000, 0), (21, 13, 195, 66492), (21, 20, 0, 23), (21, 15, 195, 218), (20, 15, 195, 195), (18, 16, 1, 1)])
theorem oo_Mo_met_12 {kA : Nat → ClassId} : or_ok kA GG o_Mo_met_12 := by
  intro A ta ws vs hD hth hl hk hds hf
  have hl : vs.length = 26 := hl
  have hk : ∀ q ∈ ([(0, (2, 0, 0, [150])), (1, (0, 0, 7, [])), (2, (0, 0, 23, [])), (3, (0, 0, 2000, [])), (4, (0, 0, 2000, [])), (6, (0, 1, 1, [])), (9, (0, 0, 23, [])), (10, (0, 24, 24, [])), (11, (0, 0, 47, [])), (12, (0, 48, 48, [])), (13, (0, 0, 23, [])), (14, (2, 0, 0, [152])), (15, (0, 0, 66297, [])), (16, (0, 0, 24, [])), (17, (0, 1, 1, [])), (18, (0, 1, 24, [])), (19, (0, 195, 195, [])), (20, (0, 195, 66492, [])), (21, (0, 195, 66515, [])), (22, (0, 0, 2000, [])), (23, (0, 0, 2000, [])), (24, (0, 0, 8, []))] : List (Nat × tv_T)), tv_ok ta q.2 (n_v vs q.1) := hk
  obtain ⟨t0, hk⟩ := List.forall_mem_cons.mp hk
  have t0 : tv_ok ta (2, 0, 0, [150]) (n_v vs 0) := t0
  have r0 : ta (v_ad (n_v vs 0)) = some 150 := tv_rg t0
  obtain ⟨t1, hk⟩ := List.forall_mem_cons.mp hk
  have t1 : tv_ok ta (0, 0, 7, []) (n_v vs 1) := t1
  have k1 : 0 ≤ v_iv (n_v vs 1) ∧ v_iv (n_v vs 1) ≤ 7 := tv_rng t1
  obtain ⟨t2, hk⟩ := List.forall_mem_cons.mp hk
  have t2 : tv_ok ta (0, 0, 23, []) (n_v vs 2) := t2
  have k2 : 0 ≤ v_iv (n_v vs 2) ∧ v_iv (n_v vs 2) ≤ 23 := tv_rng t2
  obtain ⟨t3, hk⟩ := List.forall_mem_cons.mp hk
  have t3 : tv_ok ta (0, 0, 2000, []) (n_v vs 3) := t3
  have k3 : 0 ≤ v_iv (n_v vs 3) ∧ v_iv (n_v vs 3) ≤ 2000 := tv_rng t3
  obtain ⟨t4, hk⟩ := List.forall_mem_cons.mp hk
  have t4 : tv_ok ta (0, 0, 2000, []) (n_v vs 4) := t4
  have k4 : 0 ≤ v_iv (n_v vs 4) ∧ v_iv (n_v vs 4) ≤ 2000 := tv_rng t4
  obtain ⟨t6, hk⟩ := List.forall_mem_cons.mp hk
  have t6 : tv_ok ta (0, 1, 1, []) (n_v vs 6) := t6
  have k6 : 1 ≤ v_iv (n_v vs 6) ∧ v_iv (n_v vs 6) ≤ 1 := tv_rng t6
  obtain ⟨t9, hk⟩ := List.forall_mem_cons.mp hk
  have t9 : tv_ok ta (0, 0, 23, []) (n_v vs 9) := t9
  have k9 : 0 ≤ v_iv (n_v vs 9) ∧ v_iv (n_v vs 9) ≤ 23 := tv_rng t9
  obtain ⟨t10, hk⟩ := List.forall_mem_cons.mp hk
  have t10 : tv_ok ta (0, 24, 24, []) (n_v vs 10) := t10
  have k10 : 24 ≤ v_iv (n_v vs 10) ∧ v_iv (n_v vs 10) ≤ 24 := tv_rng t10
  obtain ⟨t11, hk⟩ := List.forall_mem_cons.mp hk
  have t11 : tv_ok ta (0, 0, 47, []) (n_v vs 11) := t11
  have k11 : 0 ≤ v_iv (n_v vs 11) ∧ v_iv (n_v vs 11) ≤ 47 := tv_rng t11
  obtain ⟨t12, hk⟩ := List.forall_mem_cons.mp hk
  have t12 : tv_ok ta (0, 48, 48, []) (n_v vs 12) := t12
  have k12 : 48 ≤ v_iv (n_v vs 12) ∧ v_iv (n_v vs 12) ≤ 48 := tv_rng t12
  obtain ⟨t13, hk⟩ := List.forall_mem_cons.mp hk
  have t13 : tv_ok ta (0, 0, 23, []) (n_v vs 13) := t13
  have k13 : 0 ≤ v_iv (n_v vs 13) ∧ v_iv (n_v vs 13) ≤ 23 := tv_rng t13
  obtain ⟨t14, hk⟩ := List.forall_mem_cons.mp hk
  have t14 : tv_ok ta (2, 0, 0, [152]) (n_v vs 14) := t14
  have r14 : ta (v_ad (n_v vs 14)) = some 152 := tv_rg t14
  obtain ⟨t15, hk⟩ := List.forall_mem_cons.mp hk
  have t15 : tv_ok ta (0, 0, 66297, []) (n_v vs 15) := t15
  have k15 : 0 ≤ v_iv (n_v vs 15) ∧ v_iv (n_v vs 15) ≤ 66297 := tv_rng t15
  obtain ⟨t16, hk⟩ := List.forall_mem_cons.mp hk
  have t16 : tv_ok ta (0, 0, 24, []) (n_v vs 16) := t16
  have k16 : 0 ≤ v_iv (n_v vs 16) ∧ v_iv (n_v vs 16) ≤ 24 := tv_rng t16
  obtain ⟨t17, hk⟩ := List.forall_mem_cons.mp hk
  have t17 : tv_ok ta (0, 1, 1, []) (n_v vs 17) := t17
  have k17 : 1 ≤ v_iv (n_v vs 17) ∧ v_iv (n_v vs 17) ≤ 1 := tv_rng t17
  obtain ⟨t18, hk⟩ := List.forall_mem_cons.mp hk
  have t18 : tv_ok ta (0, 1, 24, []) (n_v vs 18) := t18
  have k18 : 1 ≤ v_iv (n_v vs 18) ∧ v_iv (n_v vs 18) ≤ 24 := tv_rng t18
  obtain ⟨t19, hk⟩ := List.forall_mem_cons.mp hk
  have t19 : tv_ok ta (0, 195, 195, []) (n_v vs 19) := t19
  have k19 : 195 ≤ v_iv (n_v vs 19) ∧ v_iv (n_v vs 19) ≤ 195 := tv_rng t19
  obtain ⟨t20, hk⟩ := List.forall_mem_cons.mp hk
  have t20 : tv_ok ta (0, 195, 66492, []) (n_v vs 20) := t20
  have k20 : 195 ≤ v_iv (n_v vs 20) ∧ v_iv (n_v vs 20) ≤ 66492 := tv_rng t20
  obtain ⟨t21, hk⟩ := List.forall_mem_cons.mp hk
  have t21 : tv_ok ta (0, 195, 66515, []) (n_v vs 21) := t21
  have k21 : 195 ≤ v_iv (n_v vs 21) ∧ v_iv (n_v vs 21) ≤ 66515 := tv_rng t21
  obtain ⟨t22, hk⟩ := List.forall_mem_cons.mp hk
  have t22 : tv_ok ta (0, 0, 2000, []) (n_v vs 22) := t22
  have k22 : 0 ≤ v_iv (n_v vs 22) ∧ v_iv (n_v vs 22) ≤ 2000 := tv_rng t22
  obtain ⟨t23, hk⟩ := List.forall_mem_cons.mp hk
  have t23 : tv_ok ta (0, 0, 2000, []) (n_v vs 23) := t23
  have k23 : 0 ≤ v_iv (n_v vs 23) ∧ v_iv (n_v vs 23) ≤ 2000 := tv_rng t23
  obtain ⟨t24, hk⟩ := List.forall_mem_cons.mp hk
  have t24 : tv_ok ta (0, 0, 8, []) (n_v vs 24) := t24
  have k24 : 0 ≤ v_iv (n_v vs 24) ∧ v_iv (n_v vs 24) ≤ 8 := tv_rng t24
  have hds : ∀ q ∈ ([(24, 22, -2000, 0), (21, 13, 195, 66492), (21, 20, 0, 23), (21, 15, 195, 218), (20, 15, 195, 195), (18, 16, 1, 1)] : List of_T), n_iv vs q.2.1 + q.2.2.1 ≤ n_iv vs q.1 ∧ n_iv vs q.1 ≤ n_iv vs q.2.1 + q.2.2.2 := hds
  obtain ⟨d0, hds⟩ := List.forall_mem_cons.mp hds
  have d0 : v_iv (n_v vs 22) + (-2000) ≤ v_iv (n_v vs 24) ∧ v_iv (n_v vs 24) ≤ v_iv (n_v vs 22) + 0 := d0
  obtain ⟨d1, hds⟩ := List.forall_mem_cons.mp hds
  have d1 : v_iv (n_v vs 13) + 195 ≤ v_iv (n_v vs 21) ∧ v_iv (n_v vs 21) ≤ v_iv (n_v vs 13) + 66492 := d1
  obtain ⟨d2, hds⟩ := List.forall_mem_cons.mp hds
  have d2 : v_iv (n_v vs 20) + 0 ≤ v_iv (n_v vs 21) ∧ v_iv (n_v vs 21) ≤ v_iv (n_v vs 20) + 23 := d2
  obtain ⟨d3, hds⟩ := List.forall_mem_cons.mp hds
  have d3 : v_iv (n_v vs 15) + 195 ≤ v_iv (n_v vs 21) ∧ v_iv (n_v vs 21) ≤ v_iv (n_v vs 15) + 218 := d3
  obtain ⟨d4, hds⟩ := List.forall_mem_cons.mp hds
  have d4 : v_iv (n_v vs 15) + 195 ≤ v_iv (n_v vs 20) ∧ v_iv (n_v vs 20) ≤ v_iv (n_v vs 15) + 195 := d4
  obtain ⟨d5, hds⟩ := List.forall_mem_cons.mp hds
  have d5 : v_iv (n_v vs 16) + 1 ≤ v_iv (n_v vs 18) ∧ v_iv (n_v vs 18) ≤ v_iv (n_v vs 16) + 1 := d5
  have hf : fc_ok [(20, [0, 0], [30, 0, 1, 1, 15, -1, 1, 11]), (20, [0], [50, 3, 0, 12, 11, 15, 2, 21, 4, 7, 1, 3, 2, 0, 12, 0, 1, 0, 3, 2, 0, 11, 4, 3, 2, 0, 15, 0, 8, 3, 7, 1, 3, 2, 0, 12, 0, 0, 0, 7, 4, 3, 2, 0, 15, 0, 1, 2, 0, 11]), (20, [3, 0], [30, 0, 1, 0, 0, -1, 1, 11]), (20, [0, 4], [50, 2, 0, 12, 11, 3, 7, 1, 3, 2, 0, 12, 0, 0, 0, 6, 4, 2, 1, 1, 0, 1, 2, 0, 11]), (20, [6, 0], [50, 1, 0, 1012, 4, 6, 1, 2, 1, 0, 0, 1, 1, 3, 2, 1, 12, 0, 1]), (100, [14, 21, 24], []), (2, [24, 22, 23], []), (9, [23, 0], [15]), (9, [22, 0], [11]), (1, [21, 20, 13], []), (1, [20, 15, 19], []), (9, [15, 0], [5]), (9, [14, 0], [2]), (20, [0, 0], [30, 0, 1, 1, 15, -1, 1, 11]), (20, [0], [50, 3, 0, 12, 11, 15, 2, 21, 4, 7, 1, 3, 2, 0, 12, 0, 1, 0, 3, 2, 0, 11, 4, 3, 2, 0, 15, 0, 8, 3, 7, 1, 3, 2, 0, 12, 0, 0, 0, 7, 4, 3, 2, 0, 15, 0, 1, 2, 0, 11]), (20, [3, 0], [30, 0, 1, 0, 0, -1, 1, 11]), (20, [0, 4], [50, 2, 0, 12, 11, 3, 7, 1, 3, 2, 0, 12, 0, 0, 0, 6, 4, 2, 1, 1, 0, 1, 2, 0, 11]), (20, [6, 0], [50, 1, 0, 1012, 4, 6, 1, 2, 1, 0, 0, 1, 1, 3, 2, 1, 12, 0, 1]), (100, [14, 15, 18], []), (1, [18, 16, 17], []), (10, [16, 14, 15], []), (20, [13, 0], [30, 0, 1, 0, 0, -1, 3, 2005000]), (20, [13, 0], [30, 0, -1, 0, 0, 1, 3, 2005000]), (7, [11, 12], [1]), (20, [11, 0], [30, 0, 1, 0, 0, -1, 3, 2005001]), (20, [11, 0], [30, 0, -1, 0, 0, 1, 3, 2005001]), (8, [2], [3]), (7, [9, 10], [1]), (20, [9, 0], [30, 0, 1, 0, 0, -1, 3, 2005000]), (20, [9, 0], [30, 0, -1, 0, 0, 1, 3, 2005000]), (8, [6], [1]), (20, [0, 0], [30, 0, 1, 1, 15, -1, 1, 11]), (20, [0], [50, 3, 0, 12, 11, 15, 2, 21, 4, 7, 1, 3, 2, 0, 12, 0, 1, 0, 3, 2, 0, 11, 4, 3, 2, 0, 15, 0, 8, 3, 7, 1, 3, 2, 0, 12, 0, 0, 0, 7, 4, 3, 2, 0, 15, 0, 1, 2, 0, 11]), (20, [3, 0], [30, 0, 1, 0, 0, -1, 1, 11]), (20, [0, 4], [50, 2, 0, 12, 11, 3, 7, 1, 3, 2, 0, 12, 0, 0, 0, 6, 4, 2, 1, 1, 0, 1, 2, 0, 11]), (20, [1, 0], [50, 1, 1, 1005, 1002, 0, 6, 4, 2, 1, 0, 0, 1, 3, 1, 2, 4, 3, 2, 1, 5, 0, 2]), (20, [6, 0], [50, 1, 0, 1012, 4, 6, 1, 2, 1, 0, 0, 1, 1, 3, 2, 1, 12, 0, 1])] ta ws vs := hf
  obtain ⟨f0, hf⟩ := fc_un (show (20 : Nat) < 100 from by decide) hf
  have f0 : 1 * w_fi ws (n_v vs 0) 15 + ((-1) * w_fi ws (n_v vs 0) 11 + 0) ≤ 0 := f0
  obtain ⟨f1, hf⟩ := fc_un (show (20 : Nat) < 100 from by decide) hf
  have f1 : ((w_fi ws (n_v vs 0) 12 = 1) → (w_fi ws (n_v vs 0) 11 ≤ (w_fi ws (n_v vs 0) 15 + 8))) ∧ ((w_fi ws (n_v vs 0) 12 = 0) ∨ ((w_fi ws (n_v vs 0) 15 + 1) ≤ w_fi ws (n_v vs 0) 11)) := f1
  obtain ⟨f2, hf⟩ := fc_un (show (20 : Nat) < 100 from by decide) hf
  have f2 : 1 * v_iv (n_v vs 3) + ((-1) * w_fi ws (n_v vs 0) 11 + 0) ≤ 0 := f2
  obtain ⟨f3, hf⟩ := fc_un (show (20 : Nat) < 100 from by decide) hf
  have f3 : (w_fi ws (n_v vs 0) 12 = 0) ∨ ((v_iv (n_v vs 4) + 1) ≤ w_fi ws (n_v vs 0) 11) := f3
  obtain ⟨f4, hf⟩ := fc_un (show (20 : Nat) < 100 from by decide) hf
  have f4 : (v_iv (n_v vs 6) = 1) → (w_fi ws (n_v vs 0) 12 = 1) := f4
  obtain ⟨ta1, w1, le1, ⟨_, s1⟩, hf⟩ := fc_us (show ¬ (100 : Nat) < 100 from by decide) hf
  have s1 : (∀ b j, w_el ws b j = if b = v_ad (n_v vs 14) ∧ j = (v_iv (n_v vs 21)).toNat then v_iv (n_v vs 24) else w_el w1 b j) ∧ ∀ b k, w_fd ws b k = w_fd w1 b k := s1
  obtain ⟨f6, hf⟩ := fc_un (show (2 : Nat) < 100 from by decide) hf
  have f6 : v_iv (n_v vs 24) = v_iv (n_v vs 22) - v_iv (n_v vs 23) := f6
  obtain ⟨f7, hf⟩ := fc_un (show (9 : Nat) < 100 from by decide) hf
  have f7 : n_v vs 23 = w_fd w1 (v_ad (n_v vs 0)) 15 := f7
  obtain ⟨f8, hf⟩ := fc_un (show (9 : Nat) < 100 from by decide) hf
  have f8 : n_v vs 22 = w_fd w1 (v_ad (n_v vs 0)) 11 := f8
  obtain ⟨f9, hf⟩ := fc_un (show (1 : Nat) < 100 from by decide) hf
  have f9 : v_iv (n_v vs 21) = v_iv (n_v vs 20) + v_iv (n_v vs 13) := f9
  obtain ⟨f10, hf⟩ := fc_un (show (1 : Nat) < 100 from by decide) hf
  have f10 : v_iv (n_v vs 20) = v_iv (n_v vs 15) + v_iv (n_v vs 19) := f10
  obtain ⟨f11, hf⟩ := fc_un (show (9 : Nat) < 100 from by decide) hf
  have f11 : n_v vs 15 = w_fd w1 (v_ad (n_v vs 0)) 5 := f11
  obtain ⟨f12, hf⟩ := fc_un (show (9 : Nat) < 100 from by decide) hf
  have f12 : n_v vs 14 = w_fd w1 (v_ad (n_v vs 0)) 2 := f12
  obtain ⟨f13, hf⟩ := fc_un (show (20 : Nat) < 100 from by decide) hf
  have f13 : 1 * w_fi w1 (n_v vs 0) 15 + ((-1) * w_fi w1 (n_v vs 0) 11 + 0) ≤ 0 := f13
  obtain ⟨f14, hf⟩ := fc_un (show (20 : Nat) < 100 from by decide) hf
  have f14 : ((w_fi w1 (n_v vs 0) 12 = 1) → (w_fi w1 (n_v vs 0) 11 ≤ (w_fi w1 (n_v vs 0) 15 + 8))) ∧ ((w_fi w1 (n_v vs 0) 12 = 0) ∨ ((w_fi w1 (n_v vs 0) 15 + 1) ≤ w_fi w1 (n_v vs 0) 11)) := f14
  obtain ⟨f15, hf⟩ := fc_un (show (20 : Nat) < 100 from by decide) hf
  have f15 : 1 * v_iv (n_v vs 3) + ((-1) * w_fi w1 (n_v vs 0) 11 + 0) ≤ 0 := f15
  obtain ⟨f16, hf⟩ := fc_un (show (20 : Nat) < 100 from by decide) hf
  have f16 : (w_fi w1 (n_v vs 0) 12 = 0) ∨ ((v_iv (n_v vs 4) + 1) ≤ w_fi w1 (n_v vs 0) 11) := f16
  obtain ⟨f17, hf⟩ := fc_un (show (20 : Nat) < 100 from by decide) hf
  have f17 : (v_iv (n_v vs 6) = 1) → (w_fi w1 (n_v vs 0) 12 = 1) := f17
  obtain ⟨ta2, w2, le2, ⟨_, s2⟩, hf⟩ := fc_us (show ¬ (100 : Nat) < 100 from by decide) hf
  have s2 : (∀ b j, w_el w1 b j = if b = v_ad (n_v vs 14) ∧ j = (v_iv (n_v vs 15)).toNat then v_iv (n_v vs 18) else w_el w2 b j) ∧ ∀ b k, w_fd w1 b k = w_fd w2 b k := s2
  obtain ⟨f19, hf⟩ := fc_un (show (1 : Nat) < 100 from by decide) hf
  have f19 : v_iv (n_v vs 18) = v_iv (n_v vs 16) + v_iv (n_v vs 17) := f19
  obtain ⟨f20, hf⟩ := fc_un (show (10 : Nat) < 100 from by decide) hf
  have f20 : v_iv (n_v vs 16) = w_el w2 (v_ad (n_v vs 14)) (v_iv (n_v vs 15)).toNat := f20
  obtain ⟨f21, hf⟩ := fc_un (show (20 : Nat) < 100 from by decide) hf
  have f21 : 1 * v_iv (n_v vs 13) + ((-1) * w_el w2 (w_ar w2 (n_v vs 0) 2) (w_fi w2 (n_v vs 0) 5 + 0).toNat + 0) ≤ 0 := f21
  obtain ⟨f22, hf⟩ := fc_un (show (20 : Nat) < 100 from by decide) hf
  have f22 : (-1) * v_iv (n_v vs 13) + (1 * w_el w2 (w_ar w2 (n_v vs 0) 2) (w_fi w2 (n_v vs 0) 5 + 0).toNat + 0) ≤ 0 := f22
  obtain ⟨f23, hf⟩ := fc_un (show (7 : Nat) < 100 from by decide) hf
  have f23 : v_iv (n_v vs 11) ≠ v_iv (n_v vs 12) := f23
  obtain ⟨f24, hf⟩ := fc_un (show (20 : Nat) < 100 from by decide) hf
  have f24 : 1 * v_iv (n_v vs 11) + ((-1) * w_el w2 (w_ar w2 (n_v vs 0) 2) (w_fi w2 (n_v vs 0) 5 + 1).toNat + 0) ≤ 0 := f24
  obtain ⟨f25, hf⟩ := fc_un (show (20 : Nat) < 100 from by decide) hf
  have f25 : (-1) * v_iv (n_v vs 11) + (1 * w_el w2 (w_ar w2 (n_v vs 0) 2) (w_fi w2 (n_v vs 0) 5 + 1).toNat + 0) ≤ 0 := f25
  obtain ⟨f26, hf⟩ := fc_un (show (8 : Nat) < 100 from by decide) hf
  have f26 : 0 ≤ v_iv (n_v vs 2) := f26
  obtain ⟨f27, hf⟩ := fc_un (show (7 : Nat) < 100 from by decide) hf
  have f27 : v_iv (n_v vs 9) ≠ v_iv (n_v vs 10) := f27
  obtain ⟨f28, hf⟩ := fc_un (show (20 : Nat) < 100 from by decide) hf
  have f28 : 1 * v_iv (n_v vs 9) + ((-1) * w_el w2 (w_ar w2 (n_v vs 0) 2) (w_fi w2 (n_v vs 0) 5 + 0).toNat + 0) ≤ 0 := f28
  obtain ⟨f29, hf⟩ := fc_un (show (20 : Nat) < 100 from by decide) hf
  have f29 : (-1) * v_iv (n_v vs 9) + (1 * w_el w2 (w_ar w2 (n_v vs 0) 2) (w_fi w2 (n_v vs 0) 5 + 0).toNat + 0) ≤ 0 := f29
  obtain ⟨f30, hf⟩ := fc_un (show (8 : Nat) < 100 from by decide) hf
  have f30 : v_iv (n_v vs 6) ≠ 0 := f30
  obtain ⟨f31, hf⟩ := fc_un (show (20 : Nat) < 100 from by decide) hf
  have f31 : 1 * w_fi w2 (n_v vs 0) 15 + ((-1) * w_fi w2 (n_v vs 0) 11 + 0) ≤ 0 := f31
  obtain ⟨f32, hf⟩ := fc_un (show (20 : Nat) < 100 from by decide) hf
  have f32 : ((w_fi w2 (n_v vs 0) 12 = 1) → (w_fi w2 (n_v vs 0) 11 ≤ (w_fi w2 (n_v vs 0) 15 + 8))) ∧ ((w_fi w2 (n_v vs 0) 12 = 0) ∨ ((w_fi w2 (n_v vs 0) 15 + 1) ≤ w_fi w2 (n_v vs 0) 11)) := f32
  obtain ⟨f33, hf⟩ := fc_un (show (20 : Nat) < 100 from by decide) hf
  have f33 : 1 * v_iv (n_v vs 3) + ((-1) * w_fi w2 (n_v vs 0) 11 + 0) ≤ 0 := f33
  obtain ⟨f34, hf⟩ := fc_un (show (20 : Nat) < 100 from by decide) hf
  have f34 : (w_fi w2 (n_v vs 0) 12 = 0) ∨ ((v_iv (n_v vs 4) + 1) ≤ w_fi w2 (n_v vs 0) 11) := f34
  obtain ⟨f35, hf⟩ := fc_un (show (20 : Nat) < 100 from by decide) hf
  have f35 : (v_iv (n_v vs 1) + 1) ≤ w_ei w2 (w_ar w2 (n_v vs 0) 2) ((w_fi w2 (n_v vs 0) 5 + 2)) := f35
  obtain ⟨f36, hf⟩ := fc_un (show (20 : Nat) < 100 from by decide) hf
  have f36 : (v_iv (n_v vs 6) = 1) → (w_fi w2 (n_v vs 0) 12 = 1) := f36
  have ar_0_2_1 : w_ar w1 (n_v vs 0) 2 = w_ar ws (n_v vs 0) 2 := by show v_ad (w_fd w1 _ _) = v_ad (w_fd ws _ _); rw [s1.2]
  have ar_0_2_2 : w_ar w2 (n_v vs 0) 2 = w_ar ws (n_v vs 0) 2 := by rw [← ar_0_2_1]; show v_ad (w_fd w2 _ _) = v_ad (w_fd w1 _ _); rw [s2.2]
  have cr_0_2 : ta (w_ar ws (n_v vs 0) 2) = some 152 := tv_rg (th_fd hD hth r0 (g := GG_150) rfl (k := 2) (t := (2, 0, 0, [152])) rfl rfl)
  have fi_0_5_1 : w_fi w1 (n_v vs 0) 5 = w_fi ws (n_v vs 0) 5 := by show v_iv (w_fd w1 _ _) = v_iv (w_fd ws _ _); rw [s1.2]
  have fi_0_5_2 : w_fi w2 (n_v vs 0) 5 = w_fi ws (n_v vs 0) 5 := by rw [← fi_0_5_1]; show v_iv (w_fd w2 _ _) = v_iv (w_fd w1 _ _); rw [s2.2]
  have ad_14 : v_ad (n_v vs 14) = w_ar ws (n_v vs 0) 2 := (congrArg v_ad f12).trans ar_0_2_1
  have g7 : v_iv (n_v vs 23) = w_fi w1 (n_v vs 0) 15 := congrArg v_iv f7
  have g8 : v_iv (n_v vs 22) = w_fi w1 (n_v vs 0) 11 := congrArg v_iv f8
  have g11 : v_iv (n_v vs 15) = w_fi w1 (n_v vs 0) 5 := congrArg v_iv f11
  rw [ad_14] at f20
  have h20 : v_iv (n_v vs 16) = w_ei w2 (w_ar ws (n_v vs 0) 2) (v_iv (n_v vs 15)) := f20
  rw [ar_0_2_2] at f21
  rw [fi_0_5_2] at f21
  rw [ar_0_2_2] at f22
  rw [fi_0_5_2] at f22
  rw [ar_0_2_2] at f24
  rw [fi_0_5_2] at f24
  rw [ar_0_2_2] at f25
  rw [fi_0_5_2] at f25
  rw [ar_0_2_2] at f28
  rw [fi_0_5_2] at f28
  rw [ar_0_2_2] at f29
  rw [fi_0_5_2] at f29
  rw [ar_0_2_2] at f35
  have cg20_F5_1 : v_iv (n_v vs 15) = w_fi ws (n_v vs 0) 5 + 1 → w_el w2 (w_ar ws (n_v vs 0) 2) (v_iv (n_v vs 15)).toNat = w_el w2 (w_ar ws (n_v vs 0) 2) (w_fi ws (n_v vs 0) 5 + 1).toNat := fun h => by rw [h]
  have cg20_F5_0 : v_iv (n_v vs 15) = w_fi ws (n_v vs 0) 5 + 0 → w_el w2 (w_ar ws (n_v vs 0) 2) (v_iv (n_v vs 15)).toNat = w_el w2 (w_ar ws (n_v vs 0) 2) (w_fi ws (n_v vs 0) 5 + 0).toNat := fun h => by rw [h]
  have fe_0_5_1 : w_fi ws (n_v vs 0) 5 = w_fi w1 (n_v vs 0) 5 := congrArg v_iv (s1.2 _ _)
  have fe_0_11_1 : w_fi ws (n_v vs 0) 11 = w_fi w1 (n_v vs 0) 11 := congrArg v_iv (s1.2 _ _)
  have fe_0_12_1 : w_fi ws (n_v vs 0) 12 = w_fi w1 (n_v vs 0) 12 := congrArg v_iv (s1.2 _ _)
  have fe_0_15_1 : w_fi ws (n_v vs 0) 15 = w_fi w1 (n_v vs 0) 15 := congrArg v_iv (s1.2 _ _)
  first | (have ee_0_2_F5_0_1 : w_el ws (w_ar ws (n_v vs 0) 2) (w_fi ws (n_v vs 0) 5 + 0).toNat = w_el w1 (w_ar ws (n_v vs 0) 2) (w_fi ws (n_v vs 0) 5 + 0).toNat := by rw [s1.1, if_neg (fun e => absurd e.2 (by omega))]) | have ee_0_2_F5_0_1 : ((w_fi ws (n_v vs 0) 5 + 0).toNat = (v_iv (n_v vs 21)).toNat → w_el ws (w_ar ws (n_v vs 0) 2) (w_fi ws (n_v vs 0) 5 + 0).toNat = v_iv (n_v vs 24)) ∧ ((w_fi ws (n_v vs 0) 5 + 0).toNat ≠ (v_iv (n_v vs 21)).toNat → w_el ws (w_ar ws (n_v vs 0) 2) (w_fi ws (n_v vs 0) 5 + 0).toNat = w_el w1 (w_ar ws (n_v vs 0) 2) (w_fi ws (n_v vs 0) 5 + 0).toNat) := ⟨fun h => by rw [s1.1, if_pos ⟨ad_14.symm, h⟩], fun h => by rw [s1.1, if_neg (fun e => h e.2)]⟩
  first | (have ee_0_2_F5_1_1 : w_el ws (w_ar ws (n_v vs 0) 2) (w_fi ws (n_v vs 0) 5 + 1).toNat = w_el w1 (w_ar ws (n_v vs 0) 2) (w_fi ws (n_v vs 0) 5 + 1).toNat := by rw [s1.1, if_neg (fun e => absurd e.2 (by omega))]) | have ee_0_2_F5_1_1 : ((w_fi ws (n_v vs 0) 5 + 1).toNat = (v_iv (n_v vs 21)).toNat → w_el ws (w_ar ws (n_v vs 0) 2) (w_fi ws (n_v vs 0) 5 + 1).toNat = v_iv (n_v vs 24)) ∧ ((w_fi ws (n_v vs 0) 5 + 1).toNat ≠ (v_iv (n_v vs 21)).toNat → w_el ws (w_ar ws (n_v vs 0) 2) (w_fi ws (n_v vs 0) 5 + 1).toNat = w_el w1 (w_ar ws (n_v vs 0) 2) (w_fi ws (n_v vs 0) 5 + 1).toNat) := ⟨fun h => by rw [s1.1, if_pos ⟨ad_14.symm, h⟩], fun h => by rw [s1.1, if_neg (fun e => h e.2)]⟩
  have ee_0_2_15_1 : ((v_iv (n_v vs 15)).toNat = (v_iv (n_v vs 21)).toNat → w_el ws (w_ar ws (n_v vs 0) 2) (v_iv (n_v vs 15)).toNat = v_iv (n_v vs 24)) ∧ ((v_iv (n_v vs 15)).toNat ≠ (v_iv (n_v vs 21)).toNat → w_el ws (w_ar ws (n_v vs 0) 2) (v_iv (n_v vs 15)).toNat = w_el w1 (w_ar ws (n_v vs 0) 2) (v_iv (n_v vs 15)).toNat) := ⟨fun h => by rw [s1.1, if_pos ⟨ad_14.symm, h⟩], fun h => by rw [s1.1, if_neg (fun e => h e.2)]⟩
  have fe_0_5_2 : w_fi w1 (n_v vs 0) 5 = w_fi w2 (n_v vs 0) 5 := congrArg v_iv (s2.2 _ _)
  have fe_0_11_2 : w_fi w1 (n_v vs 0) 11 = w_fi w2 (n_v vs 0) 11 := congrArg v_iv (s2.2 _ _)
  have fe_0_12_2 : w_fi w1 (n_v vs 0) 12 = w_fi w2 (n_v vs 0) 12 := congrArg v_iv (s2.2 _ _)
  have fe_0_15_2 : w_fi w1 (n_v vs 0) 15 = w_fi w2 (n_v vs 0) 15 := congrArg v_iv (s2.2 _ _)
  first | (have ee_0_2_F5_0_2 : w_el w1 (w_ar ws (n_v vs 0) 2) (w_fi ws (n_v vs 0) 5 + 0).toNat = w_el w2 (w_ar ws (n_v vs 0) 2) (w_fi ws (n_v vs 0) 5 + 0).toNat := by rw [s2.1, if_neg (fun e => absurd e.2 (by omega))]) | have ee_0_2_F5_0_2 : ((w_fi ws (n_v vs 0) 5 + 0).toNat = (v_iv (n_v vs 15)).toNat → w_el w1 (w_ar ws (n_v vs 0) 2) (w_fi ws (n_v vs 0) 5 + 0).toNat = v_iv (n_v vs 18)) ∧ ((w_fi ws (n_v vs 0) 5 + 0).toNat ≠ (v_iv (n_v vs 15)).toNat → w_el w1 (w_ar ws (n_v vs 0) 2) (w_fi ws (n_v vs 0) 5 + 0).toNat = w_el w2 (w_ar ws (n_v vs 0) 2) (w_fi ws (n_v vs 0) 5 + 0).toNat) := ⟨fun h => by rw [s2.1, if_pos ⟨ad_14.symm, h⟩], fun h => by rw [s2.1, if_neg (fun e => h e.2)]⟩
  first | (have ee_0_2_F5_1_2 : w_el w1 (w_ar ws (n_v vs 0) 2) (w_fi ws (n_v vs 0) 5 + 1).toNat = w_el w2 (w_ar ws (n_v vs 0) 2) (w_fi ws (n_v vs 0) 5 + 1).toNat := by rw [s2.1, if_neg (fun e => absurd e.2 (by omega))]) | have ee_0_2_F5_1_2 : ((w_fi ws (n_v vs 0) 5 + 1).toNat = (v_iv (n_v vs 15)).toNat → w_el w1 (w_ar ws (n_v vs 0) 2) (w_fi ws (n_v vs 0) 5 + 1).toNat = v_iv (n_v vs 18)) ∧ ((w_fi ws (n_v vs 0) 5 + 1).toNat ≠ (v_iv (n_v vs 15)).toNat → w_el w1 (w_ar ws (n_v vs 0) 2) (w_fi ws (n_v vs 0) 5 + 1).toNat = w_el w2 (w_ar ws (n_v vs 0) 2) (w_fi ws (n_v vs 0) 5 + 1).toNat) := ⟨fun h => by rw [s2.1, if_pos ⟨ad_14.symm, h⟩], fun h => by rw [s2.1, if_neg (fun e => h e.2)]⟩
  have ee_0_2_15_2 : w_el w1 (w_ar ws (n_v vs 0) 2) (v_iv (n_v vs 15)).toNat = v_iv (n_v vs 18) := by rw [s2.1, if_pos ⟨ad_14.symm, rfl⟩]
  have br_0_2_F5_0_0 : w_ei ws (w_ar ws (n_v vs 0) 2) (w_fi ws (n_v vs 0) 5 + 0) = w_el ws (w_ar ws (n_v vs 0) 2) (w_fi ws (n_v vs 0) 5 + 0).toNat := rfl
  have br_0_2_F5_0_1 : w_ei w1 (w_ar ws (n_v vs 0) 2) (w_fi ws (n_v vs 0) 5 + 0) = w_el w1 (w_ar ws (n_v vs 0) 2) (w_fi ws (n_v vs 0) 5 + 0).toNat := rfl
  have br_0_2_F5_0_2 : w_ei w2 (w_ar ws (n_v vs 0) 2) (w_fi ws (n_v vs 0) 5 + 0) = w_el w2 (w_ar ws (n_v vs 0) 2) (w_fi ws (n_v vs 0) 5 + 0).toNat := rfl
  have br_0_2_F5_1_0 : w_ei ws (w_ar ws (n_v vs 0) 2) (w_fi ws (n_v vs 0) 5 + 1) = w_el ws (w_ar ws (n_v vs 0) 2) (w_fi ws (n_v vs 0) 5 + 1).toNat := rfl
  have br_0_2_F5_1_1 : w_ei w1 (w_ar ws (n_v vs 0) 2) (w_fi ws (n_v vs 0) 5 + 1) = w_el w1 (w_ar ws (n_v vs 0) 2) (w_fi ws (n_v vs 0) 5 + 1).toNat := rfl
  have br_0_2_F5_1_2 : w_ei w2 (w_ar ws (n_v vs 0) 2) (w_fi ws (n_v vs 0) 5 + 1) = w_el w2 (w_ar ws (n_v vs 0) 2) (w_fi ws (n_v vs 0) 5 + 1).toNat := rfl
  have br_0_2_15_0 : w_ei ws (w_ar ws (n_v vs 0) 2) (v_iv (n_v vs 15)) = w_el ws (w_ar ws (n_v vs 0) 2) (v_iv (n_v vs 15)).toNat := rfl
  have br_0_2_15_1 : w_ei w1 (w_ar ws (n_v vs 0) 2) (v_iv (n_v vs 15)) = w_el w1 (w_ar ws (n_v vs 0) 2) (v_iv (n_v vs 15)).toNat := rfl
  have br_0_2_15_2 : w_ei w2 (w_ar ws (n_v vs 0) 2) (v_iv (n_v vs 15)) = w_el w2 (w_ar ws (n_v vs 0) 2) (v_iv (n_v vs 15)).toNat := rfl
  have hE_0_2_1 : ∀ j : Int, 0 ≤ j → (j = v_iv (n_v vs 21) → w_ei ws (w_ar ws (n_v vs 0) 2) j = v_iv (n_v vs 24)) ∧ (j ≠ v_iv (n_v vs 21) → w_ei ws (w_ar ws (n_v vs 0) 2) j = w_ei w1 (w_ar ws (n_v vs 0) 2) j) := fun j hj => ⟨fun h => by unfold w_ei; rw [s1.1, if_pos ⟨ad_14.symm, by rw [h]⟩], fun h => by unfold w_ei; rw [s1.1, if_neg (fun e => h (by have := e.2; omega))]⟩
  have hE_0_2_2 : ∀ j : Int, 0 ≤ j → (j = v_iv (n_v vs 15) → w_ei w1 (w_ar ws (n_v vs 0) 2) j = v_iv (n_v vs 18)) ∧ (j ≠ v_iv (n_v vs 15) → w_ei w1 (w_ar ws (n_v vs 0) 2) j = w_ei w2 (w_ar ws (n_v vs 0) 2) j) := fun j hj => ⟨fun h => by unfold w_ei; rw [s2.1, if_pos ⟨ad_14.symm, by rw [h]⟩], fun h => by unfold w_ei; rw [s2.1, if_neg (fun e => h (by have := e.2; omega))]⟩
  have kz_0_11 : 0 ≤ w_fi ws (n_v vs 0) 11 ∧ w_fi ws (n_v vs 0) 11 ≤ 2000 := tv_rng (th_fd hD hth r0 (g := GG_150) rfl (k := 11) (t := (0, 0, 2000, [])) rfl rfl)
  have kz_0_12 : 0 ≤ w_fi ws (n_v vs 0) 12 ∧ w_fi ws (n_v vs 0) 12 ≤ 4 := tv_rng (th_fd hD hth r0 (g := GG_150) rfl (k := 12) (t := (0, 0, 4, [])) rfl rfl)
  have kz_0_15 : 0 ≤ w_fi ws (n_v vs 0) 15 ∧ w_fi ws (n_v vs 0) 15 ≤ 2000 := tv_rng (th_fd hD hth r0 (g := GG_150) rfl (k := 15) (t := (0, 0, 2000, [])) rfl rfl)
  first | have hJ0 : w_ei w2 (w_ar ws (n_v vs 0) 2) ((w_fi w2 (n_v vs 0) 5 + 2)) = w_ei w2 (w_ar ws (n_v vs 0) 2) ((w_fi ws (n_v vs 0) 5 + 2)) := congrArg _ (show ((w_fi w2 (n_v vs 0) 5 + 2) : Int) = (w_fi ws (n_v vs 0) 5 + 2) from by omega) | skip
  first | have hI1 := (hE_0_2_1 ((w_fi ws (n_v vs 0) 5 + 2)) (by omega)).2 (by omega) | have hI1 := (hE_0_2_1 ((w_fi ws (n_v vs 0) 5 + 2)) (by omega)).1 (by omega) | skip
  first | have hI2 := (hE_0_2_2 ((w_fi ws (n_v vs 0) 5 + 2)) (by omega)).2 (by omega) | have hI2 := (hE_0_2_2 ((w_fi ws (n_v vs 0) 5 + 2)) (by omega)).1 (by omega) | skip
  first | have hI3 := (hE_0_2_1 ((w_fi ws (n_v vs 0) 5 + 1)) (by omega)).2 (by omega) | have hI3 := (hE_0_2_1 ((w_fi ws (n_v vs 0) 5 + 1)) (by omega)).1 (by omega) | skip
  first | have hI4 := (hE_0_2_2 ((w_fi ws (n_v vs 0) 5 + 1)) (by omega)).2 (by omega) | have hI4 := (hE_0_2_2 ((w_fi ws (n_v vs 0) 5 + 1)) (by omega)).1 (by omega) | skip
  have nf0 : fc_1 (20, [4, 0], [30, -1, 1, 0, 0, -1, 1, 11]) ws (vs) := by
    refine ⟨fun n hn => ?_, ?_⟩
    · have hn : n ∈ [4, 0] := hn
      rw [hl]
      simp only [List.mem_cons, List.not_mem_nil, or_false] at hn
      show n < 26; omega
    · show 1 * v_iv (n_v vs 4) + ((-1) * w_fi ws (n_v vs 0) 11 + 0) ≤ (-1)
      omega
  have nf1 : fc_1 (20, [0], [50, 1, 0, 12, 1, 3, 2, 0, 12, 0, 1]) ws (vs) := by
    refine ⟨fun n hn => ?_, ?_⟩
    · have hn : n ∈ [0] := hn
      rw [hl]
      simp only [List.mem_cons, List.not_mem_nil, or_false] at hn
      show n < 26; omega
    · show w_fi ws (n_v vs 0) 12 = 1
      first | omega | grind
  have nf2 : fc_1 (20, [2, 0], [50, 1, 1, 1005, 1002, 3, 6, 0, 2, 1, 0, 0, -1, 0, 10, 3, 1, 2, 4, 3, 2, 1, 5, 0, 1, 0, 47]) ws (vs) := by
    refine ⟨fun n hn => ?_, ?_⟩
    · have hn : n ∈ [2, 0] := hn
      rw [hl]
      simp only [List.mem_cons, List.not_mem_nil, or_false] at hn
      show n < 26; omega
    · show (v_iv (n_v vs 2) ≤ (-1)) ∨ (w_ei ws (w_ar ws (n_v vs 0) 2) ((w_fi ws (n_v vs 0) 5 + 1)) ≤ 47)
      first | omega | grind
  have nf3 : fc_1 (20, [1, 0], [50, 1, 1, 1005, 1002, 0, 6, 4, 2, 1, 0, 0, 1, 3, 1, 2, 4, 3, 2, 1, 5, 0, 2]) ws (vs) := by
    refine ⟨fun n hn => ?_, ?_⟩
    · have hn : n ∈ [1, 0] := hn
      rw [hl]
      simp only [List.mem_cons, List.not_mem_nil, or_false] at hn
      show n < 26; omega
    · show (v_iv (n_v vs 1) + 1) ≤ w_ei ws (w_ar ws (n_v vs 0) 2) ((w_fi ws (n_v vs 0) 5 + 2))
      first | omega | grind
  have nf4 : fc_1 (24, [0, 0], []) ws (vs) := by
    refine ⟨fun n hn => ?_, ?_⟩
    · have hn : n ∈ [0, 0] := hn
      rw [hl]
      simp only [List.mem_cons, List.not_mem_nil, or_false] at hn
      show n < 26; omega
    · show n_v vs 0 = n_v vs 0
      first | rfl | simp only [true_and]
  have nf5 : fc_1 (24, [1, 1], []) ws (vs) := by
    refine ⟨fun n hn => ?_, ?_⟩
    · have hn : n ∈ [1, 1] := hn
      rw [hl]
      simp only [List.mem_cons, List.not_mem_nil, or_false] at hn
      show n < 26; omega
    · show n_v vs 1 = n_v vs 1
      first | rfl | simp only [true_and]
  have nf6 : fc_1 (24, [2, 2], []) ws (vs) := by
    refine ⟨fun n hn => ?_, ?_⟩
    · have hn : n ∈ [2, 2] := hn
      rw [hl]
      simp only [List.mem_cons, List.not_mem_nil, or_false] at hn
      show n < 26; omega
    · show n_v vs 2 = n_v vs 2
      first | rfl | simp only [true_and]
  refine ⟨(fun _ h => (by cases h)), [], trivial, ?_, (fun _ h => (by cases h))⟩
  rw [List.append_nil]
  exact List.forall_mem_cons.mpr ⟨⟨show (20 : Nat) < 100 from by decide, nf0⟩, List.forall_mem_cons.mpr ⟨⟨show (20 : Nat) < 100 from by decide, nf1⟩, List.forall_mem_cons.mpr ⟨⟨show (20 : Nat) < 100 from by decide, nf2⟩, List.forall_mem_cons.mpr ⟨⟨show (20 : Nat) < 100 from by decide, nf3⟩, List.forall_mem_cons.mpr ⟨⟨show (24 : Nat) < 100 from by decide, nf4⟩, List.forall_mem_cons.mpr ⟨⟨show (24 : Nat) < 100 from by decide, nf5⟩, List.forall_mem_cons.mpr ⟨⟨show (24 : Nat) < 100 from by decide, nf6⟩, (fun _ h => (by cases h))⟩⟩⟩⟩⟩⟩⟩
def o_Mo_met_13 : or_T := (130, 17, [(0, (2, 0, 0, [150])), (1, (0, 0, 7, [])), (3, (0, 0, 2000, [])), (4, (0, 0, 2000, [])), (6, (0, 1, 1, [])), (9, (0, 0, 23, [])), (10, (0, 24, 24, [])), (11, (0, 48, 48, [])), (12, (0, 48, 48, [])), (15, (0, 0, 0, [])), (16, (0, 0, 24, []))], [(20, [16, 0], [30, 0, 1, 0, 0, -1, 3, 2005000]), (20, [16, 0], [30, 0, -1, 0, 0, 1, 3, 2005000]), (8, [15], [5]), (9, [15, 0], [8]), (20, [11, 0], [30, 0, 1, 0, 0, -1, 3, 2005001]), (20, [11, 0], [30, 0, -1, 0, 0, 1, 3, 2005001]), (20, [9, 0], [30, 0, 1, 0, 0, -1, 3, 2005000]), (20, [9, 0], [30, 0, -1, 0, 0, 1, 3, 2005000]), (20, [0, 0], [30, 0, 1, 1, 15, -1, 1, 11]), (20, [0], [50, 3, 0, 12, 11, 15, 2, 21, 4, 7, 1, 3, 2, 0, 12, 0, 1, 0, 3, 2, 0, 11, 4, 3, 2, 0, 15, 0, 8, 3, 7, 1, 3, 2, 0, 12, 0, 0, 0, 7, 4, 3, 2, 0, 15, 0, 1, 2, 0, 11]), (20, [3, 0], [30, 0, 1, 0, 0, -1, 1, 11]), (20, [0, 4], [50, 2, 0, 12, 11, 3, 7, 1, 3, 2, 0, 12, 0, 0, 0, 6, 4, 2, 1, 1, 0, 1, 2, 0, 11]), (20, [1, 0], [50, 1, 1, 1005, 1002, 0, 6, 4, 2, 1, 0, 0, 1, 3, 1, 2, 4, 3, 2, 1, 5, 0, 2]), (20, [6, 0], [50, 1, 0, 1012, 4, 6, 1, 2, 1, 0, 0, 1, 1, 3, 2, 1, 12, 0, 1]), (20, [0], [30, -1, -1, 1, 8]), (102, [14], [0, 13008, 13009]), (7, [11, 12], [0]), (7, [9, 10], [1]), (8, [6], [1])], [(16, (0, 0, 23, []))], [], [], [], [])
theorem oo_Mo_met_13 {kA : Nat → ClassId} : or_ok kA GG o_Mo_met_13 := by
  intro A ta ws vs hD hth hl hk hds hf
  have hl : vs.length = 17 := hl
  have hk : ∀ q ∈ ([(0, (2, 0, 0, [150])), (1, (0, 0, 7, [])), (3, (0, 0, 2000, [])), (4, (0, 0, 2000, [])), (6, (0, 1, 1, [])), (9, (0, 0, 23, [])), (10, (0, 24, 24, [])), (11, (0, 48, 48, [])), (12, (0, 48, 48, [])), (15, (0, 0, 0, [])), (16, (0, 0, 24, []))] : List (Nat × tv_T)), tv_ok ta q.2 (n_v vs q.1) := hk
  obtain ⟨t0, hk⟩ := List.forall_mem_cons.mp hk
  have t0 : tv_ok ta (2, 0, 0, [150]) (n_v vs 0) := t0
  have r0 : ta (v_ad (n_v vs 0)) = some 150 := tv_rg t0
  obtain ⟨t1, hk⟩ := List.forall_mem_cons.mp hk
  have t1 : tv_ok ta (0, 0, 7, []) (n_v vs 1) := t1
  have k1 : 0 ≤ v_iv (n_v vs 1) ∧ v_iv (n_v vs 1) ≤ 7 := tv_rng t1
  obtain ⟨t3, hk⟩ := List.forall_mem_cons.mp hk
  have t3 : tv_ok ta (0, 0, 2000, []) (n_v vs 3) := t3
  have k3 : 0 ≤ v_iv (n_v vs 3) ∧ v_iv (n_v vs 3) ≤ 2000 := tv_rng t3
  obtain ⟨t4, hk⟩ := List.forall_mem_cons.mp hk
  have t4 : tv_ok ta (0, 0, 2000, []) (n_v vs 4) := t4
  have k4 : 0 ≤ v_iv (n_v vs 4) ∧ v_iv (n_v vs 4) ≤ 2000 := tv_rng t4
  obtain ⟨t6, hk⟩ := List.forall_mem_cons.mp hk
  have t6 : tv_ok ta (0, 1, 1, []) (n_v vs 6) := t6
  have k6 : 1 ≤ v_iv (n_v vs 6) ∧ v_iv (n_v vs 6) ≤ 1 := tv_rng t6
  obtain ⟨t9, hk⟩ := List.forall_mem_cons.mp hk
  have t9 : tv_ok ta (0, 0, 23, []) (n_v vs 9) := t9
  have k9 : 0 ≤ v_iv (n_v vs 9) ∧ v_iv (n_v vs 9) ≤ 23 := tv_rng t9
  obtain ⟨t10, hk⟩ := List.forall_mem_cons.mp hk
  have t10 : tv_ok ta (0, 24, 24, []) (n_v vs 10) := t10
  have k10 : 24 ≤ v_iv (n_v vs 10) ∧ v_iv (n_v vs 10) ≤ 24 := tv_rng t10
  obtain ⟨t11, hk⟩ := List.forall_mem_cons.mp hk
  have t11 : tv_ok ta (0, 48, 48, []) (n_v vs 11) := t11
  have k11 : 48 ≤ v_iv (n_v vs 11) ∧ v_iv (n_v vs 11) ≤ 48 := tv_rng t11
  obtain ⟨t12, hk⟩ := List.forall_mem_cons.mp hk
  have t12 : tv_ok ta (0, 48, 48, []) (n_v vs 12) := t12
  have k12 : 48 ≤ v_iv (n_v vs 12) ∧ v_iv (n_v vs 12) ≤ 48 := tv_rng t12
  obtain ⟨t15, hk⟩ := List.forall_mem_cons.mp hk
  have t15 : tv_ok ta (0, 0, 0, []) (n_v vs 15) := t15
  have k15 : 0 ≤ v_iv (n_v vs 15) ∧ v_iv (n_v vs 15) ≤ 0 := tv_rng t15
  obtain ⟨t16, hk⟩ := List.forall_mem_cons.mp hk
  have t16 : tv_ok ta (0, 0, 24, []) (n_v vs 16) := t16
  have k16 : 0 ≤ v_iv (n_v vs 16) ∧ v_iv (n_v vs 16) ≤ 24 := tv_rng t16
  have hf : fc_ok [(20, [16, 0], [30, 0, 1, 0, 0, -1, 3, 2005000]), (20, [16, 0], [30, 0, -1, 0, 0, 1, 3, 2005000]), (8, [15], [5]), (9, [15, 0], [8]), (20, [11, 0], [30, 0, 1, 0, 0, -1, 3, 2005001]), (20, [11, 0], [30, 0, -1, 0, 0, 1, 3, 2005001]), (20, [9, 0], [30, 0, 1, 0, 0, -1, 3, 2005000]), (20, [9, 0], [30, 0, -1, 0, 0, 1, 3, 2005000]), (20, [0, 0], [30, 0, 1, 1, 15, -1, 1, 11]), (20, [0], [50, 3, 0, 12, 11, 15, 2, 21, 4, 7, 1, 3, 2, 0, 12, 0, 1, 0, 3, 2, 0, 11, 4, 3, 2, 0, 15, 0, 8, 3, 7, 1, 3, 2, 0, 12, 0, 0, 0, 7, 4, 3, 2, 0, 15, 0, 1, 2, 0, 11]), (20, [3, 0], [30, 0, 1, 0, 0, -1, 1, 11]), (20, [0, 4], [50, 2, 0, 12, 11, 3, 7, 1, 3, 2, 0, 12, 0, 0, 0, 6, 4, 2, 1, 1, 0, 1, 2, 0, 11]), (20, [1, 0], [50, 1, 1, 1005, 1002, 0, 6, 4, 2, 1, 0, 0, 1, 3, 1, 2, 4, 3, 2, 1, 5, 0, 2]), (20, [6, 0], [50, 1, 0, 1012, 4, 6, 1, 2, 1, 0, 0, 1, 1, 3, 2, 1, 12, 0, 1]), (20, [0], [30, -1, -1, 1, 8]), (102, [14], [0, 13008, 13009]), (7, [11, 12], [0]), (7, [9, 10], [1]), (8, [6], [1])] ta ws vs := hf
  obtain ⟨f0, hf⟩ := fc_un (show (20 : Nat) < 100 from by decide) hf
  have f0 : 1 * v_iv (n_v vs 16) + ((-1) * w_el ws (w_ar ws (n_v vs 0) 2) (w_fi ws (n_v vs 0) 5 + 0).toNat + 0) ≤ 0 := f0
  obtain ⟨f1, hf⟩ := fc_un (show (20 : Nat) < 100 from by decide) hf
  have f1 : (-1) * v_iv (n_v vs 16) + (1 * w_el ws (w_ar ws (n_v vs 0) 2) (w_fi ws (n_v vs 0) 5 + 0).toNat + 0) ≤ 0 := f1
  obtain ⟨f2, hf⟩ := fc_un (show (8 : Nat) < 100 from by decide) hf
  have f2 : v_iv (n_v vs 15) ≤ 0 := f2
  obtain ⟨f3, hf⟩ := fc_un (show (9 : Nat) < 100 from by decide) hf
  have f3 : n_v vs 15 = w_fd ws (v_ad (n_v vs 0)) 8 := f3
  obtain ⟨f4, hf⟩ := fc_un (show (20 : Nat) < 100 from by decide) hf
  have f4 : 1 * v_iv (n_v vs 11) + ((-1) * w_el ws (w_ar ws (n_v vs 0) 2) (w_fi ws (n_v vs 0) 5 + 1).toNat + 0) ≤ 0 := f4
  obtain ⟨f5, hf⟩ := fc_un (show (20 : Nat) < 100 from by decide) hf
  have f5 : (-1) * v_iv (n_v vs 11) + (1 * w_el ws (w_ar ws (n_v vs 0) 2) (w_fi ws (n_v vs 0) 5 + 1).toNat + 0) ≤ 0 := f5
  obtain ⟨f6, hf⟩ := fc_un (show (20 : Nat) < 100 from by decide) hf
  have f6 : 1 * v_iv (n_v vs 9) + ((-1) * w_el ws (w_ar ws (n_v vs 0) 2) (w_fi ws (n_v vs 0) 5 + 0).toNat + 0) ≤ 0 := f6
  obtain ⟨f7, hf⟩ := fc_un (show (20 : Nat) < 100 from by decide) hf
  have f7 : (-1) * v_iv (n_v vs 9) + (1 * w_el ws (w_ar ws (n_v vs 0) 2) (w_fi ws (n_v vs 0) 5 + 0).toNat + 0) ≤ 0 := f7
  obtain ⟨f8, hf⟩ := fc_un (show (20 : Nat) < 100 from by decide) hf
  have f8 : 1 * w_fi ws (n_v vs 0) 15 + ((-1) * w_fi ws (n_v vs 0) 11 + 0) ≤ 0 := f8
  obtain ⟨f9, hf⟩ := fc_un (show (20 : Nat) < 100 from by decide) hf
  have f9 : ((w_fi ws (n_v vs 0) 12 = 1) → (w_fi ws (n_v vs 0) 11 ≤ (w_fi ws (n_v vs 0) 15 + 8))) ∧ ((w_fi ws (n_v vs 0) 12 = 0) ∨ ((w_fi ws (n_v vs 0) 15 + 1) ≤ w_fi ws (n_v vs 0) 11)) := f9
  obtain ⟨f10, hf⟩ := fc_un (show (20 : Nat) < 100 from by decide) hf
  have f10 : 1 * v_iv (n_v vs 3) + ((-1) * w_fi ws (n_v vs 0) 11 + 0) ≤ 0 := f10
  obtain ⟨f11, hf⟩ := fc_un (show (20 : Nat) < 100 from by decide) hf
  have f11 : (w_fi ws (n_v vs 0) 12 = 0) ∨ ((v_iv (n_v vs 4) + 1) ≤ w_fi ws (n_v vs 0) 11) := f11
  obtain ⟨f12, hf⟩ := fc_un (show (20 : Nat) < 100 from by decide) hf
  have f12 : (v_iv (n_v vs 1) + 1) ≤ w_ei ws (w_ar ws (n_v vs 0) 2) ((w_fi ws (n_v vs 0) 5 + 2)) := f12
  obtain ⟨f13, hf⟩ := fc_un (show (20 : Nat) < 100 from by decide) hf
  have f13 : (v_iv (n_v vs 6) = 1) → (w_fi ws (n_v vs 0) 12 = 1) := f13
  obtain ⟨f14, hf⟩ := fc_un (show (20 : Nat) < 100 from by decide) hf
  have f14 : (-1) * w_fi ws (n_v vs 0) 8 + 0 ≤ (-1) := f14
  obtain ⟨ta1, w1, le1, ⟨_, s1⟩, hf⟩ := fc_us (show ¬ (102 : Nat) < 100 from by decide) hf
  obtain ⟨f16, hf⟩ := fc_un (show (7 : Nat) < 100 from by decide) hf
  have f16 : v_iv (n_v vs 11) = v_iv (n_v vs 12) := f16
  obtain ⟨f17, hf⟩ := fc_un (show (7 : Nat) < 100 from by decide) hf
  have f17 : v_iv (n_v vs 9) ≠ v_iv (n_v vs 10) := f17
  obtain ⟨f18, hf⟩ := fc_un (show (8 : Nat) < 100 from by decide) hf
  have f18 : v_iv (n_v vs 6) ≠ 0 := f18
  have cr_0_2 : ta (w_ar ws (n_v vs 0) 2) = some 152 := tv_rg (th_fd hD hth r0 (g := GG_150) rfl (k := 2) (t := (2, 0, 0, [152])) rfl rfl)
  have g3 : v_iv (n_v vs 15) = w_fi ws (n_v vs 0) 8 := congrArg v_iv f3
  have br_0_2_F5_0_0 : w_ei ws (w_ar ws (n_v vs 0) 2) (w_fi ws (n_v vs 0) 5 + 0) = w_el ws (w_ar ws (n_v vs 0) 2) (w_fi ws (n_v vs 0) 5 + 0).toNat := rfl
  have br_0_2_F5_1_0 : w_ei ws (w_ar ws (n_v vs 0) 2) (w_fi ws (n_v vs 0) 5 + 1) = w_el ws (w_ar ws (n_v vs 0) 2) (w_fi ws (n_v vs 0) 5 + 1).toNat := rfl
  have kz_0_8 : 0 ≤ w_fi ws (n_v vs 0) 8 ∧ w_fi ws (n_v vs 0) 8 ≤ 5 := tv_rng (th_fd hD hth r0 (g := GG_150) rfl (k := 8) (t := (0, 0, 5, [])) rfl rfl)
  have kz_0_11 : 0 ≤ w_fi ws (n_v vs 0) 11 ∧ w_fi ws (n_v vs 0) 11 ≤ 2000 := tv_rng (th_fd hD hth r0 (g := GG_150) rfl (k := 11) (t := (0, 0, 2000, [])) rfl rfl)
  have kz_0_12 : 0 ≤ w_fi ws (n_v vs 0) 12 ∧ w_fi ws (n_v vs 0) 12 ≤ 4 := tv_rng (th_fd hD hth r0 (g := GG_150) rfl (k := 12) (t := (0, 0, 4, [])) rfl rfl)
  have kz_0_15 : 0 ≤ w_fi ws (n_v vs 0) 15 ∧ w_fi ws (n_v vs 0) 15 ≤ 2000 := tv_rng (th_fd hD hth r0 (g := GG_150) rfl (k := 15) (t := (0, 0, 2000, [])) rfl rfl)
  have rf16 : tv_ok ta (0, 0, 23, []) (n_v vs 16) := tv_in t16 (by first | omega | grind) (by first | omega | grind)
  refine ⟨List.forall_mem_cons.mpr ⟨rf16, (fun _ h => (by cases h))⟩, [], trivial, ?_, (fun _ h => (by cases h))⟩
  rw [List.append_nil]
  exact (fun _ h => (by cases h))
def o_Mo_met_14 : or_T := (143, 22, [(0, (2, 0, 0, [150])), (1, (0, 0, 7, [])), (3, (0, 0, 2000, [])), (4, (0, 0, 2000, [])), (6, (0, 1, 1, [])), (9, (0, 0, 23, [])), (10, (0, 24, 24, [])), (11, (0, 48, 48, [])), (12, (0, 48, 48, [])), (15, (0, 0, 0, [])), (16, (0, 0, 23, [])), (17, (2, 0, 0, [152])), (18, (0, 0, 66297, [])), (19, (0, 0, 24, [])), (20, (0, 1, 1, [])), (21, (0, 1, 25, []))], [(1, [21, 19, 20], []), (10, [19, 17, 18], []), (9, [18, 0], [5]), (9, [17, 0], [2]), (20, [16, 0], [30, 0, 1, 0, 0, -1, 3, 2005000]), (20, [16, 0], [30, 0, -1, 0, 0, 1, 3, 2005000]), (8, [15], [5]), (9, [15, 0], [8]), (20, [11, 0], [30, 0, 1, 0, 0, -1, 3, 2005001]), (20, [11, 0], [30, 0, -1, 0, 0, 1, 3, 2005001]), (20, [9, 0], [30, 0, 1, 0, 0, -1, 3, 2005000]), (20, [9, 0], [30, 0, -1, 0, 0, 1, 3, 2005000]), (20, [0, 0], [30, 0, 1, 1, 15, -1, 1, 11]), (20, [0], [50, 3, 0, 12, 11, 15, 2, 21, 4, 7, 1, 3, 2, 0, 12, 0, 1, 0, 3, 2, 0, 11, 4, 3, 2, 0, 15, 0, 8, 3, 7, 1, 3, 2, 0, 12, 0, 0, 0, 7, 4, 3, 2, 0, 15, 0, 1, 2, 0, 11]), (20, [3, 0], [30, 0, 1, 0, 0, -1, 1, 11]), (20, [0, 4], [50, 2, 0, 12, 11, 3, 7, 1, 3, 2, 0, 12, 0, 0, 0, 6, 4, 2, 1, 1, 0, 1, 2, 0, 11]), (20, [1, 0], [50, 1, 1, 1005, 1002, 0, 6, 4, 2, 1, 0, 0, 1, 3, 1, 2, 4, 3, 2, 1, 5, 0, 2]), (20, [6, 0], [50, 1, 0, 1012, 4, 6, 1, 2, 1, 0, 0, 1, 1, 3, 2, 1, 12, 0, 1]), (20, [0], [30, -1, -1, 1, 8]), (102, [14], [0, 13008, 13009]), (7, [11, 12], [0]), (7, [9, 10], [1]), (8, [6], [1])], [(21, (0, 1, 24, []))], [], [], [], [(21, 19, 1, 1)])
theorem oo_Mo_met_14 {kA : Nat → ClassId} : or_ok kA GG o_Mo_met_14 := by
  intro A ta ws vs hD hth hl hk hds hf
  have hl : vs.length = 22 := hl
  have hk : ∀ q ∈ ([(0, (2, 0, 0, [150])), (1, (0, 0, 7, [])), (3, (0, 0, 2000, [])), (4, (0, 0, 2000, [])), (6, (0, 1, 1, [])), (9, (0, 0, 23, [])), (10, (0, 24, 24, [])), (11, (0, 48, 48, [])), (12, (0, 48, 48, [])), (15, (0, 0, 0, [])), (16, (0, 0, 23, [])), (17, (2, 0, 0, [152])), (18, (0, 0, 66297, [])), (19, (0, 0, 24, [])), (20, (0, 1, 1, [])), (21, (0, 1, 25, []))] : List (Nat × tv_T)), tv_ok ta q.2 (n_v vs q.1) := hk
  obtain ⟨t0, hk⟩ := List.forall_mem_cons.mp hk
  have t0 : tv_ok ta (2, 0, 0, [150]) (n_v vs 0) := t0
  have r0 : ta (v_ad (n_v vs 0)) = some 150 := tv_rg t0
  obtain ⟨t1, hk⟩ := List.forall_mem_cons.mp hk
  have t1 : tv_ok ta (0, 0, 7, []) (n_v vs 1) := t1
  have k1 : 0 ≤ v_iv (n_v vs 1) ∧ v_iv (n_v vs 1) ≤ 7 := tv_rng t1
  obtain ⟨t3, hk⟩ := List.forall_mem_cons.mp hk
  have t3 : tv_ok ta (0, 0, 2000, []) (n_v vs 3) := t3
  have k3 : 0 ≤ v_iv (n_v vs 3) ∧ v_iv (n_v vs 3) ≤ 2000 := tv_rng t3
  obtain ⟨t4, hk⟩ := List.forall_mem_cons.mp hk
  have t4 : tv_ok ta (0, 0, 2000, []) (n_v vs 4) := t4
  have k4 : 0 ≤ v_iv (n_v vs 4) ∧ v_iv (n_v vs 4) ≤ 2000 := tv_rng t4
  obtain ⟨t6, hk⟩ := List.forall_mem_cons.mp hk
  have t6 : tv_ok ta (0, 1, 1, []) (n_v vs 6) := t6
  have k6 : 1 ≤ v_iv (n_v vs 6) ∧ v_iv (n_v vs 6) ≤ 1 := tv_rng t6
  obtain ⟨t9, hk⟩ := List.forall_mem_cons.mp hk
  have t9 : tv_ok ta (0, 0, 23, []) (n_v vs 9) := t9
  have k9 : 0 ≤ v_iv (n_v vs 9) ∧ v_iv (n_v vs 9) ≤ 23 := tv_rng t9
  obtain ⟨t10, hk⟩ := List.forall_mem_cons.mp hk
  have t10 : tv_ok ta (0, 24, 24, []) (n_v vs 10) := t10
  have k10 : 24 ≤ v_iv (n_v vs 10) ∧ v_iv (n_v vs 10) ≤ 24 := tv_rng t10
  obtain ⟨t11, hk⟩ := List.forall_mem_cons.mp hk
  have t11 : tv_ok ta (0, 48, 48, []) (n_v vs 11) := t11
  have k11 : 48 ≤ v_iv (n_v vs 11) ∧ v_iv (n_v vs 11) ≤ 48 := tv_rng t11
  obtain ⟨t12, hk⟩ := List.forall_mem_cons.mp hk
  have t12 : tv_ok ta (0, 48, 48, []) (n_v vs 12) := t12
  have k12 : 48 ≤ v_iv (n_v vs 12) ∧ v_iv (n_v vs 12) ≤ 48 := tv_rng t12
  obtain ⟨t15, hk⟩ := List.forall_mem_cons.mp hk
  have t15 : tv_ok ta (0, 0, 0, []) (n_v vs 15) := t15
  have k15 : 0 ≤ v_iv (n_v vs 15) ∧ v_iv (n_v vs 15) ≤ 0 := tv_rng t15
  obtain ⟨t16, hk⟩ := List.forall_mem_cons.mp hk
  have t16 : tv_ok ta (0, 0, 23, []) (n_v vs 16) := t16
  have k16 : 0 ≤ v_iv (n_v vs 16) ∧ v_iv (n_v vs 16) ≤ 23 := tv_rng t16
  obtain ⟨t17, hk⟩ := List.forall_mem_cons.mp hk
  have t17 : tv_ok ta (2, 0, 0, [152]) (n_v vs 17) := t17
  have r17 : ta (v_ad (n_v vs 17)) = some 152 := tv_rg t17
  obtain ⟨t18, hk⟩ := List.forall_mem_cons.mp hk
  have t18 : tv_ok ta (0, 0, 66297, []) (n_v vs 18) := t18
  have k18 : 0 ≤ v_iv (n_v vs 18) ∧ v_iv (n_v vs 18) ≤ 66297 := tv_rng t18
  obtain ⟨t19, hk⟩ := List.forall_mem_cons.mp hk
  have t19 : tv_ok ta (0, 0, 24, []) (n_v vs 19) := t19
  have k19 : 0 ≤ v_iv (n_v vs 19) ∧ v_iv (n_v vs 19) ≤ 24 := tv_rng t19
  obtain ⟨t20, hk⟩ := List.forall_mem_cons.mp hk
  have t20 : tv_ok ta (0, 1, 1, []) (n_v vs 20) := t20
  have k20 : 1 ≤ v_iv (n_v vs 20) ∧ v_iv (n_v vs 20) ≤ 1 := tv_rng t20
  obtain ⟨t21, hk⟩ := List.forall_mem_cons.mp hk
  have t21 : tv_ok ta (0, 1, 25, []) (n_v vs 21) := t21
  have k21 : 1 ≤ v_iv (n_v vs 21) ∧ v_iv (n_v vs 21) ≤ 25 := tv_rng t21
  have hds : ∀ q ∈ ([(21, 19, 1, 1)] : List of_T), n_iv vs q.2.1 + q.2.2.1 ≤ n_iv vs q.1 ∧ n_iv vs q.1 ≤ n_iv vs q.2.1 + q.2.2.2 := hds
  obtain ⟨d0, hds⟩ := List.forall_mem_cons.mp hds
  have d0 : v_iv (n_v vs 19) + 1 ≤ v_iv (n_v vs 21) ∧ v_iv (n_v vs 21) ≤ v_iv (n_v vs 19) + 1 := d0
  have hf : fc_ok [(1, [21, 19, 20], []), (10, [19, 17, 18], []), (9, [18, 0], [5]), (9, [17, 0], [2]), (20, [16, 0], [30, 0, 1, 0, 0, -1, 3, 2005000]), (20, [16, 0], [30, 0, -1, 0, 0, 1, 3, 2005000]), (8, [15], [5]), (9, [15, 0], [8]), (20, [11, 0], [30, 0, 1, 0, 0, -1, 3, 2005001]), (20, [11, 0], [30, 0, -1, 0, 0, 1, 3, 2005001]), (20, [9, 0], [30, 0, 1, 0, 0, -1, 3, 2005000]), (20, [9, 0], [30, 0, -1, 0, 0, 1, 3, 2005000]), (20, [0, 0], [30, 0, 1, 1, 15, -1, 1, 11]), (20, [0], [50, 3, 0, 12, 11, 15, 2, 21, 4, 7, 1, 3, 2, 0, 12, 0, 1, 0, 3, 2, 0, 11, 4, 3, 2, 0, 15, 0, 8, 3, 7, 1, 3, 2, 0, 12, 0, 0, 0, 7, 4, 3, 2, 0, 15, 0, 1, 2, 0, 11]), (20, [3, 0], [30, 0, 1, 0, 0, -1, 1, 11]), (20, [0, 4], [50, 2, 0, 12, 11, 3, 7, 1, 3, 2, 0, 12, 0, 0, 0, 6, 4, 2, 1, 1, 0, 1, 2, 0, 11]), (20, [1, 0], [50, 1, 1, 1005, 1002, 0, 6, 4, 2, 1, 0, 0, 1, 3, 1, 2, 4, 3, 2, 1, 5, 0, 2]), (20, [6, 0], [50, 1, 0, 1012, 4, 6, 1, 2, 1, 0, 0, 1, 1, 3, 2, 1, 12, 0, 1]), (20, [0], [30, -1, -1, 1, 8]), (102, [14], [0, 13008, 13009]), (7, [11, 12], [0]), (7, [9, 10], [1]), (8, [6], [1])] ta ws vs := hf
  obtain ⟨f0, hf⟩ := fc_un (show (1 : Nat) < 100 from by decide) hf
  have f0 : v_iv (n_v vs 21) = v_iv (n_v vs 19) + v_iv (n_v vs 20) := f0
  obtain ⟨f1, hf⟩ := fc_un (show (10 : Nat) < 100 from by decide) hf
  have f1 : v_iv (n_v vs 19) = w_el ws (v_ad (n_v vs 17)) (v_iv (n_v vs 18)).toNat := f1
  obtain ⟨f2, hf⟩ := fc_un (show (9 : Nat) < 100 from by decide) hf
  have f2 : n_v vs 18 = w_fd ws (v_ad (n_v vs 0)) 5 := f2
  obtain ⟨f3, hf⟩ := fc_un (show (9 : Nat) < 100 from by decide) hf
  have f3 : n_v vs 17 = w_fd ws (v_ad (n_v vs 0)) 2 := f3
  obtain ⟨f4, hf⟩ := fc_un (show (20 : Nat) < 100 from by decide) hf
  have f4 : 1 * v_iv (n_v vs 16) + ((-1) * w_el ws (w_ar ws (n_v vs 0) 2) (w_fi ws (n_v vs 0) 5 + 0).toNat + 0) ≤ 0 := f4
  obtain ⟨f5, hf⟩ := fc_un (show (20 : Nat) < 100 from by decide) hf
  have f5 : (-1) * v_iv (n_v vs 16) + (1 * w_el ws (w_ar ws (n_v vs 0) 2) (w_fi ws (n_v vs 0) 5 + 0).toNat + 0) ≤ 0 := f5
  obtain ⟨f6, hf⟩ := fc_un (show (8 : Nat) < 100 from by decide) hf
  have f6 : v_iv (n_v vs 15) ≤ 0 := f6
  obtain ⟨f7, hf⟩ := fc_un (show (9 : Nat) < 100 from by decide) hf
  have f7 : n_v vs 15 = w_fd ws (v_ad (n_v vs 0)) 8 := f7
  obtain ⟨f8, hf⟩ := fc_un (show (20 : Nat) < 100 from by decide) hf
  have f8 : 1 * v_iv (n_v vs 11) + ((-1) * w_el ws (w_ar ws (n_v vs 0) 2) (w_fi ws (n_v vs 0) 5 + 1).toNat + 0) ≤ 0 := f8
  obtain ⟨f9, hf⟩ := fc_un (show (20 : Nat) < 100 from by decide) hf
  have f9 : (-1) * v_iv (n_v vs 11) + (1 * w_el ws (w_ar ws (n_v vs 0) 2) (w_fi ws (n_v vs 0) 5 + 1).toNat + 0) ≤ 0 := f9
  obtain ⟨f10, hf⟩ := fc_un (show (20 : Nat) < 100 from by decide) hf
  have f10 : 1 * v_iv (n_v vs 9) + ((-1) * w_el ws (w_ar ws (n_v vs 0) 2) (w_fi ws (n_v vs 0) 5 + 0).toNat + 0) ≤ 0 := f10
  obtain ⟨f11, hf⟩ := fc_un (show (20 : Nat) < 100 from by decide) hf
  have f11 : (-1) * v_iv (n_v vs 9) + (1 * w_el ws (w_ar ws (n_v vs 0) 2) (w_fi ws (n_v vs 0) 5 + 0).toNat + 0) ≤ 0 := f11
  obtain ⟨f12, hf⟩ := fc_un (show (20 : Nat) < 100 from by decide) hf
  have f12 : 1 * w_fi ws (n_v vs 0) 15 + ((-1) * w_fi ws (n_v vs 0) 11 + 0) ≤ 0 := f12
  obtain ⟨f13, hf⟩ := fc_un (show (20 : Nat) < 100 from by decide) hf
  have f13 : ((w_fi ws (n_v vs 0) 12 = 1) → (w_fi ws (n_v vs 0) 11 ≤ (w_fi ws (n_v vs 0) 15 + 8))) ∧ ((w_fi ws (n_v vs 0) 12 = 0) ∨ ((w_fi ws (n_v vs 0) 15 + 1) ≤ w_fi ws (n_v vs 0) 11)) := f13
  obtain ⟨f14, hf⟩ := fc_un (show (20 : Nat) < 100 from by decide) hf
  have f14 : 1 * v_iv (n_v vs 3) + ((-1) * w_fi ws (n_v vs 0) 11 + 0) ≤ 0 := f14
  obtain ⟨f15, hf⟩ := fc_un (show (20 : Nat) < 100 from by decide) hf
  have f15 : (w_fi ws (n_v vs 0) 12 = 0) ∨ ((v_iv (n_v vs 4) + 1) ≤ w_fi ws (n_v vs 0) 11) := f15
  obtain ⟨f16, hf⟩ := fc_un (show (20 : Nat) < 100 from by decide) hf
  have f16 : (v_iv (n_v vs 1) + 1) ≤ w_ei ws (w_ar ws (n_v vs 0) 2) ((w_fi ws (n_v vs 0) 5 + 2)) := f16
  obtain ⟨f17, hf⟩ := fc_un (show (20 : Nat) < 100 from by decide) hf
  have f17 : (v_iv (n_v vs 6) = 1) → (w_fi ws (n_v vs 0) 12 = 1) := f17
  obtain ⟨f18, hf⟩ := fc_un (show (20 : Nat) < 100 from by decide) hf
  have f18 : (-1) * w_fi ws (n_v vs 0) 8 + 0 ≤ (-1) := f18
  obtain ⟨ta1, w1, le1, ⟨_, s1⟩, hf⟩ := fc_us (show ¬ (102 : Nat) < 100 from by decide) hf
  obtain ⟨f20, hf⟩ := fc_un (show (7 : Nat) < 100 from by decide) hf
  have f20 : v_iv (n_v vs 11) = v_iv (n_v vs 12) := f20
  obtain ⟨f21, hf⟩ := fc_un (show (7 : Nat) < 100 from by decide) hf
  have f21 : v_iv (n_v vs 9) ≠ v_iv (n_v vs 10) := f21
  obtain ⟨f22, hf⟩ := fc_un (show (8 : Nat) < 100 from by decide) hf
  have f22 : v_iv (n_v vs 6) ≠ 0 := f22
  have cr_0_2 : ta (w_ar ws (n_v vs 0) 2) = some 152 := tv_rg (th_fd hD hth r0 (g := GG_150) rfl (k := 2) (t := (2, 0, 0, [152])) rfl rfl)
  have ad_17 : v_ad (n_v vs 17) = w_ar ws (n_v vs 0) 2 := congrArg v_ad f3
  rw [ad_17] at f1
  have h1 : v_iv (n_v vs 19) = w_ei ws (w_ar ws (n_v vs 0) 2) (v_iv (n_v vs 18)) := f1
  have g2 : v_iv (n_v vs 18) = w_fi ws (n_v vs 0) 5 := congrArg v_iv f2
  have g7 : v_iv (n_v vs 15) = w_fi ws (n_v vs 0) 8 := congrArg v_iv f7
  have cg1_F5_1 : v_iv (n_v vs 18) = w_fi ws (n_v vs 0) 5 + 1 → w_el ws (w_ar ws (n_v vs 0) 2) (v_iv (n_v vs 18)).toNat = w_el ws (w_ar ws (n_v vs 0) 2) (w_fi ws (n_v vs 0) 5 + 1).toNat := fun h => by rw [h]
  have cg1_F5_0 : v_iv (n_v vs 18) = w_fi ws (n_v vs 0) 5 + 0 → w_el ws (w_ar ws (n_v vs 0) 2) (v_iv (n_v vs 18)).toNat = w_el ws (w_ar ws (n_v vs 0) 2) (w_fi ws (n_v vs 0) 5 + 0).toNat := fun h => by rw [h]
  have br_0_2_F5_0_0 : w_ei ws (w_ar ws (n_v vs 0) 2) (w_fi ws (n_v vs 0) 5 + 0) = w_el ws (w_ar ws (n_v vs 0) 2) (w_fi ws (n_v vs 0) 5 + 0).toNat := rfl
  have br_0_2_F5_1_0 : w_ei ws (w_ar ws (n_v vs 0) 2) (w_fi ws (n_v vs 0) 5 + 1) = w_el ws (w_ar ws (n_v vs 0) 2) (w_fi ws (n_v vs 0) 5 + 1).toNat := rfl
  have br_0_2_18_0 : w_ei ws (w_ar ws (n_v vs 0) 2) (v_iv (n_v vs 18)) = w_el ws (w_ar ws (n_v vs 0) 2) (v_iv (n_v vs 18)).toNat := rfl
  have kz_0_8 : 0 ≤ w_fi ws (n_v vs 0) 8 ∧ w_fi ws (n_v vs 0) 8 ≤ 5 := tv_rng (th_fd hD hth r0 (g := GG_150) rfl (k := 8) (t := (0, 0, 5, [])) rfl rfl)
  have kz_0_11 : 0 ≤ w_fi ws (n_v vs 0) 11 ∧ w_fi ws (n_v vs 0) 11 ≤ 2000 := tv_rng (th_fd hD hth r0 (g := GG_150) rfl (k := 11) (t := (0, 0, 2000, [])) rfl rfl)
  have kz_0_12 : 0 ≤ w_fi ws (n_v vs 0) 12 ∧ w_fi ws (n_v vs 0) 12 ≤ 4 := tv_rng (th_fd hD hth r0 (g := GG_150) rfl (k := 12) (t := (0, 0, 4, [])) rfl rfl)
  have kz_0_15 : 0 ≤ w_fi ws (n_v vs 0) 15 ∧ w_fi ws (n_v vs 0) 15 ≤ 2000 := tv_rng (th_fd hD hth r0 (g := GG_150) rfl (k := 15) (t := (0, 0, 2000, [])) rfl rfl)
  have rf21 : tv_ok ta (0, 1, 24, []) (n_v vs 21) := tv_in t21 (by first | omega | grind) (by first | omega | grind)
  refine ⟨List.forall_mem_cons.mpr ⟨rf21, (fun _ h => (by cases h))⟩, [], trivial, ?_, (fun _ h => (by cases h))⟩
  rw [List.append_nil]
  exact (fun _ h => (by cases h))
def o_Mo_met_15 : or_T := (167, 28, [(0, (2, 0, 0, [150])), (1, (0, 0, 7, [])), (3, (0, 0, 2000, [])), (4, (0, 0, 2000, [])), (6, (0, 1, 1, [])), (9, (0, 0, 23, [])), (10, (0, 24, 24, [])), (11, (0, 48, 48, [])), (12, (0, 48, 48, [])), (15, (0, 0, 0, [])), (16, (0, 0, 23, [])), (17, (2, 0, 0, [152])), (18, (0, 0, 66297, [])), (19, (0, 0, 24, [])), (20, (0, 1, 1, [])), (21, (0, 1, 24, [])), (25, (0, 0, 2000, [])), (26, (0, 0, 2000, [])), (27, (0, -2000, 2000, []))], [(2, [27, 25, 26], []), (9, [26, 0], [15]), (9, [25, 0], [11]), (9, [18, 0], [5]), (9, [17, 0], [2]), (20, [0, 0], [30, 0, 1, 1, 15, -1, 1, 11]), (20, [0], [50, 3, 0, 12, 11, 15, 2, 21, 4, 7, 1, 3, 2, 0, 12, 0, 1, 0, 3, 2, 0, 11, 4, 3, 2, 0, 15, 0, 8, 3, 7, 1, 3, 2, 0, 12, 0, 0, 0, 7, 4, 3, 2, 0, 15, 0, 1, 2, 0, 11]), (20, [3, 0], [30, 0, 1, 0, 0, -1, 1, 11]), (20, [0, 4], [50, 2, 0, 12, 11, 3, 7, 1, 3, 2, 0, 12, 0, 0, 0, 6, 4, 2, 1, 1, 0, 1, 2, 0, 11]), (20, [6, 0], [50, 1, 0, 1012, 4, 6, 1, 2, 1, 0, 0, 1, 1, 3, 2, 1, 12, 0, 1]), (20, [0], [30, -1, -1, 1, 8]), (100, [17, 18, 21], []), (1, [21, 19, 20], []), (10, [19, 17, 18], []), (20, [16, 0], [30, 0, 1, 0, 0, -1, 3, 2005000]), (20, [16, 0], [30, 0, -1, 0, 0, 1, 3, 2005000]), (8, [15], [5]), (9, [15, 0], [8]), (20, [11, 0], [30, 0, 1, 0, 0, -1, 3, 2005001]), (20, [11, 0], [30, 0, -1, 0, 0, 1, 3, 2005001]), (20, [9, 0], [30, 0, 1, 0, 0, -1, 3, 2005000]), (20, [9, 0], [30, 0, -1, 0, 0, 1, 3, 2005000]), (20, [0, 0], [30, 0, 1, 1, 15, -1, 1, 11]), (20, [0], [50, 3, 0, 12, 11, 15, 2, 21, 4, 7, 1, 3, 2, 0, 12, 0, 1, 0, 3, 2, 0, 11, 4, 3, 2, 0, 15, 0, 8, 3, 7, 1, 3, 2, 0, 12, 0, 0, 0, 7, 4, 3, 2, 0, 15, 0, 1, 2, 0, 11]), (20, [3, 0], [30, 0, 1, 0, 0, -1, 1, 11]), (20, [0, 4], [50, 2, 0, 12, 11, 3, 7, 1, 3, 2, 0, 12, 0, 0, 0, 6, 4, 2, 1, 1, 0, 1, 2, 0, 11]), (20, [1, 0], [50, 1, 1, 1005, 1002, 0, 6, 4, 2, 1, 0, 0, 1, 3, 1, 2, 4, 3, 2, 1, 5, 0, 2]), (20, [6, 0], [50, 1, 0, 1012, 4, 6, 1, 2, 1, 0, 0, 1, 1, 3, 2, 1, 12, 0, 1]), (20, [0], [30, -1, -1, 1, 8]), (102, [14], [0, 13008, 13009]), (7, [11, 12], [0]), (7, [9, 10], [1]), (8, [6], [1])], [(27, (0, 0, 8, []))], [], [], [], [(27, 25, -2000, 0), (21, 19, 1, 1)])
theorem oo_Mo_met_15 {kA : Nat → ClassId} : or_ok kA GG o_Mo_met_15 := by
  intro A ta ws vs hD hth hl hk hds hf
  have hl : vs.length = 28 := hl
  have hk : ∀ q ∈ ([(0, (2, 0, 0, [150])), (1, (0, 0, 7, [])), (3, (0, 0, 2000, [])), (4, (0, 0, 2000, [])), (6, (0, 1, 1, [])), (9, (0, 0, 23, [])), (10, (0, 24, 24, [])), (11, (0, 48, 48, [])), (12, (0, 48, 48, [])), (15, (0, 0, 0, [])), (16, (0, 0, 23, [])), (17, (2, 0, 0, [152])), (18, (0, 0, 66297, [])), (19, (0, 0, 24, [])), (20, (0, 1, 1, [])), (21, (0, 1, 24, [])), (25, (0, 0, 2000, [])), (26, (0, 0, 2000, [])), (27, (0, -2000, 2000, []))] : List (Nat × tv_T)), tv_ok ta q.2 (n_v vs q.1) := hk
  obtain ⟨t0, hk⟩ := List.forall_mem_cons.mp hk
  have t0 : tv_ok ta (2, 0, 0, [150]) (n_v vs 0) := t0
  have r0 : ta (v_ad (n_v vs 0)) = some 150 := tv_rg t0
  obtain ⟨t1, hk⟩ := List.forall_mem_cons.mp hk
  have t1 : tv_ok ta (0, 0, 7, []) (n_v vs 1) := t1
  have k1 : 0 ≤ v_iv (n_v vs 1) ∧ v_iv (n_v vs 1) ≤ 7 := tv_rng t1
  obtain ⟨t3, hk⟩ := List.forall_mem_cons.mp hk
  have t3 : tv_ok ta (0, 0, 2000, []) (n_v vs 3) := t3
  have k3 : 0 ≤ v_iv (n_v vs 3) ∧ v_iv (n_v vs 3) ≤ 2000 := tv_rng t3
  obtain ⟨t4, hk⟩ := List.forall_mem_cons.mp hk
  have t4 : tv_ok ta (0, 0, 2000, []) (n_v vs 4) := t4
  have k4 : 0 ≤ v_iv (n_v vs 4) ∧ v_iv (n_v vs 4) ≤ 2000 := tv_rng t4
  obtain ⟨t6, hk⟩ := List.forall_mem_cons.mp hk
  have t6 : tv_ok ta (0, 1, 1, []) (n_v vs 6) := t6
  have k6 : 1 ≤ v_iv (n_v vs 6) ∧ v_iv (n_v vs 6) ≤ 1 := tv_rng t6
  obtain ⟨t9, hk⟩ := List.forall_mem_cons.mp hk
  have t9 : tv_ok ta (0, 0, 23, []) (n_v vs 9) := t9
  have k9 : 0 ≤ v_iv (n_v vs 9) ∧ v_iv (n_v vs 9) ≤ 23 := tv_rng t9
  obtain ⟨t10, hk⟩ := List.forall_mem_cons.mp hk
  have t10 : tv_ok ta (0, 24, 24, []) (n_v vs 10) := t10
  have k10 : 24 ≤ v_iv (n_v vs 10) ∧ v_iv (n_v vs 10) ≤ 24 := tv_rng t10
  obtain ⟨t11, hk⟩ := List.forall_mem_cons.mp hk
  have t11 : tv_ok ta (0, 48, 48, []) (n_v vs 11) := t11
  have k11 : 48 ≤ v_iv (n_v vs 11) ∧ v_iv (n_v vs 11) ≤ 48 := tv_rng t11
  obtain ⟨t12, hk⟩ := List.forall_mem_cons.mp hk
  have t12 : tv_ok ta (0, 48, 48, []) (n_v vs 12) := t12
  have k12 : 48 ≤ v_iv (n_v vs 12) ∧ v_iv (n_v vs 12) ≤ 48 := tv_rng t12
  obtain ⟨t15, hk⟩ := List.forall_mem_cons.mp hk
  have t15 : tv_ok ta (0, 0, 0, []) (n_v vs 15) := t15
  have k15 : 0 ≤ v_iv (n_v vs 15) ∧ v_iv (n_v vs 15) ≤ 0 := tv_rng t15
  obtain ⟨t16, hk⟩ := List.forall_mem_cons.mp hk
  have t16 : tv_ok ta (0, 0, 23, []) (n_v vs 16) := t16
  have k16 : 0 ≤ v_iv (n_v vs 16) ∧ v_iv (n_v vs 16) ≤ 23 := tv_rng t16
  obtain ⟨t17, hk⟩ := List.forall_mem_cons.mp hk
  have t17 : tv_ok ta (2, 0, 0, [152]) (n_v vs 17) := t17
  have r17 : ta (v_ad (n_v vs 17)) = some 152 := tv_rg t17
  obtain ⟨t18, hk⟩ := List.forall_mem_cons.mp hk
  have t18 : tv_ok ta (0, 0, 66297, []) (n_v vs 18) := t18
  have k18 : 0 ≤ v_iv (n_v vs 18) ∧ v_iv (n_v vs 18) ≤ 66297 := tv_rng t18
  obtain ⟨t19, hk⟩ := List.forall_mem_cons.mp hk
  have t19 : tv_ok ta (0, 0, 24, []) (n_v vs 19) := t19
  have k19 : 0 ≤ v_iv (n_v vs 19) ∧ v_iv (n_v vs 19) ≤ 24 := tv_rng t19
  obtain ⟨t20, hk⟩ := List.forall_mem_cons.mp hk
  have t20 : tv_ok ta (0, 1, 1, []) (n_v vs 20) := t20
  have k20 : 1 ≤ v_iv (n_v vs 20) ∧ v_iv (n_v vs 20) ≤ 1 := tv_rng t20
  obtain ⟨t21, hk⟩ := List.forall_mem_cons.mp hk
  have t21 : tv_ok ta (0, 1, 24, []) (n_v vs 21) := t21
  have k21 : 1 ≤ v_iv (n_v vs 21) ∧ v_iv (n_v vs 21) ≤ 24 := tv_rng t21
  obtain ⟨t25, hk⟩ := List.forall_mem_cons.mp hk
  have t25 : tv_ok ta (0, 0, 2000, []) (n_v vs 25) := t25
  have k25 : 0 ≤ v_iv (n_v vs 25) ∧ v_iv (n_v vs 25) ≤ 2000 := tv_rng t25
  obtain ⟨t26, hk⟩ := List.forall_mem_cons.mp hk
  have t26 : tv_ok ta (0, 0, 2000, []) (n_v vs 26) := t26
  have k26 : 0 ≤ v_iv (n_v vs 26) ∧ v_iv (n_v vs 26) ≤ 2000 := tv_rng t26
  obtain ⟨t27, hk⟩ := List.forall_mem_cons.mp hk
  have t27 : tv_ok ta (0, -2000, 2000, []) (n_v vs 27) := t27
  have k27 : (-2000) ≤ v_iv (n_v vs 27) ∧ v_iv (n_v vs 27) ≤ 2000 := tv_rng t27
  have hds : ∀ q ∈ ([(27, 25, -2000, 0), (21, 19, 1, 1)] : List of_T), n_iv vs q.2.1 + q.2.2.1 ≤ n_iv vs q.1 ∧ n_iv vs q.1 ≤ n_iv vs q.2.1 + q.2.2.2 := hds
  obtain ⟨d0, hds⟩ := List.forall_mem_cons.mp hds
  have d0 : v_iv (n_v vs 25) + (-2000) ≤ v_iv (n_v vs 27) ∧ v_iv (n_v vs 27) ≤ v_iv (n_v vs 25) + 0 := d0
  obtain ⟨d1, hds⟩ := List.forall_mem_cons.mp hds
  have d1 : v_iv (n_v vs 19) + 1 ≤ v_iv (n_v vs 21) ∧ v_iv (n_v vs 21) ≤ v_iv (n_v vs 19) + 1 := d1
  have hf : fc_ok [(2, [27, 25, 26], []), (9, [26, 0], [15]), (9, [25, 0], [11]), (9, [18, 0], [5]), (9, [17, 0], [2]), (20, [0, 0], [30, 0, 1, 1, 15, -1, 1, 11]), (20, [0], [50, 3, 0, 12, 11, 15, 2, 21, 4, 7, 1, 3, 2, 0, 12, 0, 1, 0, 3, 2, 0, 11, 4, 3, 2, 0, 15, 0, 8, 3, 7, 1, 3, 2, 0, 12, 0, 0, 0, 7, 4, 3, 2, 0, 15, 0, 1, 2, 0, 11]), (20, [3, 0], [30, 0, 1, 0, 0, -1, 1, 11]), (20, [0, 4], [50, 2, 0, 12, 11, 3, 7, 1, 3, 2, 0, 12, 0, 0, 0, 6, 4, 2, 1, 1, 0, 1, 2, 0, 11]), (20, [6, 0], [50, 1, 0, 1012, 4, 6, 1, 2, 1, 0, 0, 1, 1, 3, 2, 1, 12, 0, 1]), (20, [0], [30, -1, -1, 1, 8]), (100, [17, 18, 21], []), (1, [21, 19, 20], []), (10, [19, 17, 18], []), (20, [16, 0], [30, 0, 1, 0, 0, -1, 3, 2005000]), (20, [16, 0], [30, 0, -1, 0, 0, 1, 3, 2005000]), (8, [15], [5]), (9, [15, 0], [8]), (20, [11, 0], [30, 0, 1, 0, 0, -1, 3, 2005001]), (20, [11, 0], [30, 0, -1, 0, 0, 1, 3, 2005001]), (20, [9, 0], [30, 0, 1, 0, 0, -1, 3, 2005000]), (20, [9, 0], [30, 0, -1, 0, 0, 1, 3, 2005000]), (20, [0, 0], [30, 0, 1, 1, 15, -1, 1, 11]), (20, [0], [50, 3, 0, 12, 11, 15, 2, 21, 4, 7, 1, 3, 2, 0, 12, 0, 1, 0, 3, 2, 0, 11, 4, 3, 2, 0, 15, 0, 8, 3, 7, 1, 3, 2, 0, 12, 0, 0, 0, 7, 4, 3, 2, 0, 15, 0, 1, 2, 0, 11]), (20, [3, 0], [30, 0, 1, 0, 0, -1, 1, 11]), (20, [0, 4], [50, 2, 0, 12, 11, 3, 7, 1, 3, 2, 0, 12, 0, 0, 0, 6, 4, 2, 1, 1, 0, 1, 2, 0, 11]), (20, [1, 0], [50, 1, 1, 1005, 1002, 0, 6, 4, 2, 1, 0, 0, 1, 3, 1, 2, 4, 3, 2, 1, 5, 0, 2]), (20, [6, 0], [50, 1, 0, 1012, 4, 6, 1, 2, 1, 0, 0, 1, 1, 3, 2, 1, 12, 0, 1]), (20, [0], [30, -1, -1, 1, 8]), (102, [14], [0, 13008, 13009]), (7, [11, 12], [0]), (7, [9, 10], [1]), (8, [6], [1])] ta ws vs := hf
  obtain ⟨f0, hf⟩ := fc_un (show (2 : Nat) < 100 from by decide) hf
  have f0 : v_iv (n_v vs 27) = v_iv (n_v vs 25) - v_iv (n_v vs 26) := f0
  obtain ⟨f1, hf⟩ := fc_un (show (9 : Nat) < 100 from by decide) hf
  have f1 : n_v vs 26 = w_fd ws (v_ad (n_v vs 0)) 15 := f1
  obtain ⟨f2, hf⟩ := fc_un (show (9 : Nat) < 100 from by decide) hf
  have f2 : n_v vs 25 = w_fd ws (v_ad (n_v vs 0)) 11 := f2
  obtain ⟨f3, hf⟩ := fc_un (show (9 : Nat) < 100 from by decide) hf
  have f3 : n_v vs 18 = w_fd ws (v_ad (n_v vs 0)) 5 := f3
  obtain ⟨f4, hf⟩ := fc_un (show (9 : Nat) < 100 from by decide) hf
  have f4 : n_v vs 17 = w_fd ws (v_ad (n_v vs 0)) 2 := f4
  obtain ⟨f5, hf⟩ := fc_un (show (20 : Nat) < 100 from by decide) hf
  have f5 : 1 * w_fi ws (n_v vs 0) 15 + ((-1) * w_fi ws (n_v vs 0) 11 + 0) ≤ 0 := f5
  obtain ⟨f6, hf⟩ := fc_un (show (20 : Nat) < 100 from by decide) hf
  have f6 : ((w_fi ws (n_v vs 0) 12 = 1) → (w_fi ws (n_v vs 0) 11 ≤ (w_fi ws (n_v vs 0) 15 + 8))) ∧ ((w_fi ws (n_v vs 0) 12 = 0) ∨ ((w_fi ws (n_v vs 0) 15 + 1) ≤ w_fi ws (n_v vs 0) 11)) := f6
  obtain ⟨f7, hf⟩ := fc_un (show (20 : Nat) < 100 from by decide) hf
  have f7 : 1 * v_iv (n_v vs 3) + ((-1) * w_fi ws (n_v vs 0) 11 + 0) ≤ 0 := f7
  obtain ⟨f8, hf⟩ := fc_un (show (20 : Nat) < 100 from by decide) hf
  have f8 : (w_fi ws (n_v vs 0) 12 = 0) ∨ ((v_iv (n_v vs 4) + 1) ≤ w_fi ws (n_v vs 0) 11) := f8
  obtain ⟨f9, hf⟩ := fc_un (show (20 : Nat) < 100 from by decide) hf
  have f9 : (v_iv (n_v vs 6) = 1) → (w_fi ws (n_v vs 0) 12 = 1) := f9
  obtain ⟨f10, hf⟩ := fc_un (show (20 : Nat) < 100 from by decide) hf
  have f10 : (-1) * w_fi ws (n_v vs 0) 8 + 0 ≤ (-1) := f10
  obtain ⟨ta1, w1, le1, ⟨_, s1⟩, hf⟩ := fc_us (show ¬ (100 : Nat) < 100 from by decide) hf
  have s1 : (∀ b j, w_el ws b j = if b = v_ad (n_v vs 17) ∧ j = (v_iv (n_v vs 18)).toNat then v_iv (n_v vs 21) else w_el w1 b j) ∧ ∀ b k, w_fd ws b k = w_fd w1 b k := s1
  obtain ⟨f12, hf⟩ := fc_un (show (1 : Nat) < 100 from by decide) hf
  have f12 : v_iv (n_v vs 21) = v_iv (n_v vs 19) + v_iv (n_v vs 20) := f12
  obtain ⟨f13, hf⟩ := fc_un (show (10 : Nat) < 100 from by decide) hf
  have f13 : v_iv (n_v vs 19) = w_el w1 (v_ad (n_v vs 17)) (v_iv (n_v vs 18)).toNat := f13
  obtain ⟨f14, hf⟩ := fc_un (show (20 : Nat) < 100 from by decide) hf
  have f14 : 1 * v_iv (n_v vs 16) + ((-1) * w_el w1 (w_ar w1 (n_v vs 0) 2) (w_fi w1 (n_v vs 0) 5 + 0).toNat + 0) ≤ 0 := f14
  obtain ⟨f15, hf⟩ := fc_un (show (20 : Nat) < 100 from by decide) hf
  have f15 : (-1) * v_iv (n_v vs 16) + (1 * w_el w1 (w_ar w1 (n_v vs 0) 2) (w_fi w1 (n_v vs 0) 5 + 0).toNat + 0) ≤ 0 := f15
  obtain ⟨f16, hf⟩ := fc_un (show (8 : Nat) < 100 from by decide) hf
  have f16 : v_iv (n_v vs 15) ≤ 0 := f16
  obtain ⟨f17, hf⟩ := fc_un (show (9 : Nat) < 100 from by decide) hf
  have f17 : n_v vs 15 = w_fd w1 (v_ad (n_v vs 0)) 8 := f17
  obtain ⟨f18, hf⟩ := fc_un (show (20 : Nat) < 100 from by decide) hf
  have f18 : 1 * v_iv (n_v vs 11) + ((-1) * w_el w1 (w_ar w1 (n_v vs 0) 2) (w_fi w1 (n_v vs 0) 5 + 1).toNat + 0) ≤ 0 := f18
  obtain ⟨f19, hf⟩ := fc_un (show (20 : Nat) < 100 from by decide) hf
  have f19 : (-1) * v_iv (n_v vs 11) + (1 * w_el w1 (w_ar w1 (n_v vs 0) 2) (w_fi w1 (n_v vs 0) 5 + 1).toNat + 0) ≤ 0 := f19
  obtain ⟨f20, hf⟩ := fc_un (show (20 : Nat) < 100 from by decide) hf
  have f20 : 1 * v_iv (n_v vs 9) + ((-1) * w_el w1 (w_ar w1 (n_v vs 0) 2) (w_fi w1 (n_v vs 0) 5 + 0).toNat + 0) ≤ 0 := f20
  obtain ⟨f21, hf⟩ := fc_un (show (20 : Nat) < 100 from by decide) hf
  have f21 : (-1) * v_iv (n_v vs 9) + (1 * w_el w1 (w_ar w1 (n_v vs 0) 2) (w_fi w1 (n_v vs 0) 5 + 0).toNat + 0) ≤ 0 := f21
  obtain ⟨f22, hf⟩ := fc_un (show (20 : Nat) < 100 from by decide) hf
  have f22 : 1 * w_fi w1 (n_v vs 0) 15 + ((-1) * w_fi w1 (n_v vs 0) 11 + 0) ≤ 0 := f22
  obtain ⟨f23, hf⟩ := fc_un (show (20 : Nat) < 100 from by decide) hf
  have f23 : ((w_fi w1 (n_v vs 0) 12 = 1) → (w_fi w1 (n_v vs 0) 11 ≤ (w_fi w1 (n_v vs 0) 15 + 8))) ∧ ((w_fi w1 (n_v vs 0) 12 = 0) ∨ ((w_fi w1 (n_v vs 0) 15 + 1) ≤ w_fi w1 (n_v vs 0) 11)) := f23
  obtain ⟨f24, hf⟩ := fc_un (show (20 : Nat) < 100 from by decide) hf
  have f24 : 1 * v_iv (n_v vs 3) + ((-1) * w_fi w1 (n_v vs 0) 11 + 0) ≤ 0 := f24
  obtain ⟨f25, hf⟩ := fc_un (show (20 : Nat) < 100 from by decide) hf
  have f25 : (w_fi w1 (n_v vs 0) 12 = 0) ∨ ((v_iv (n_v vs 4) + 1) ≤ w_fi w1 (n_v vs 0) 11) := f25
  obtain ⟨f26, hf⟩ := fc_un (show (20 : Nat) < 100 from by decide) hf
  have f26 : (v_iv (n_v vs 1) + 1) ≤ w_ei w1 (w_ar w1 (n_v vs 0) 2) ((w_fi w1 (n_v vs 0) 5 + 2)) := f26
  obtain ⟨f27, hf⟩ := fc_un (show (20 : Nat) < 100 from by decide) hf
  have f27 : (v_iv (n_v vs 6) = 1) → (w_fi w1 (n_v vs 0) 12 = 1) := f27
  obtain ⟨f28, hf⟩ := fc_un (show (20 : Nat) < 100 from by decide) hf
  have f28 : (-1) * w_fi w1 (n_v vs 0) 8 + 0 ≤ (-1) := f28
  obtain ⟨ta2, w2, le2, ⟨_, s2⟩, hf⟩ := fc_us (show ¬ (102 : Nat) < 100 from by decide) hf
  obtain ⟨f30, hf⟩ := fc_un (show (7 : Nat) < 100 from by decide) hf
  have f30 : v_iv (n_v vs 11) = v_iv (n_v vs 12) := f30
  obtain ⟨f31, hf⟩ := fc_un (show (7 : Nat) < 100 from by decide) hf
  have f31 : v_iv (n_v vs 9) ≠ v_iv (n_v vs 10) := f31
  obtain ⟨f32, hf⟩ := fc_un (show (8 : Nat) < 100 from by decide) hf
  have f32 : v_iv (n_v vs 6) ≠ 0 := f32
  have ar_0_2_1 : w_ar w1 (n_v vs 0) 2 = w_ar ws (n_v vs 0) 2 := by show v_ad (w_fd w1 _ _) = v_ad (w_fd ws _ _); rw [s1.2]
  have cr_0_2 : ta (w_ar ws (n_v vs 0) 2) = some 152 := tv_rg (th_fd hD hth r0 (g := GG_150) rfl (k := 2) (t := (2, 0, 0, [152])) rfl rfl)
  have fi_0_5_1 : w_fi w1 (n_v vs 0) 5 = w_fi ws (n_v vs 0) 5 := by show v_iv (w_fd w1 _ _) = v_iv (w_fd ws _ _); rw [s1.2]
  have ad_17 : v_ad (n_v vs 17) = w_ar ws (n_v vs 0) 2 := congrArg v_ad f4
  have g1 : v_iv (n_v vs 26) = w_fi ws (n_v vs 0) 15 := congrArg v_iv f1
  have g2 : v_iv (n_v vs 25) = w_fi ws (n_v vs 0) 11 := congrArg v_iv f2
  have g3 : v_iv (n_v vs 18) = w_fi ws (n_v vs 0) 5 := congrArg v_iv f3
  rw [ad_17] at f13
  have h13 : v_iv (n_v vs 19) = w_ei w1 (w_ar ws (n_v vs 0) 2) (v_iv (n_v vs 18)) := f13
  rw [ar_0_2_1] at f14
  rw [fi_0_5_1] at f14
  rw [ar_0_2_1] at f15
  rw [fi_0_5_1] at f15
  have g17 : v_iv (n_v vs 15) = w_fi w1 (n_v vs 0) 8 := congrArg v_iv f17
  rw [ar_0_2_1] at f18
  rw [fi_0_5_1] at f18
  rw [ar_0_2_1] at f19
  rw [fi_0_5_1] at f19
  rw [ar_0_2_1] at f20
  rw [fi_0_5_1] at f20
  rw [ar_0_2_1] at f21
  rw [fi_0_5_1] at f21
  rw [ar_0_2_1] at f26
  have cg13_F5_1 : v_iv (n_v vs 18) = w_fi ws (n_v vs 0) 5 + 1 → w_el w1 (w_ar ws (n_v vs 0) 2) (v_iv (n_v vs 18)).toNat = w_el w1 (w_ar ws (n_v vs 0) 2) (w_fi ws (n_v vs 0) 5 + 1).toNat := fun h => by rw [h]
  have cg13_F5_0 : v_iv (n_v vs 18) = w_fi ws (n_v vs 0) 5 + 0 → w_el w1 (w_ar ws (n_v vs 0) 2) (v_iv (n_v vs 18)).toNat = w_el w1 (w_ar ws (n_v vs 0) 2) (w_fi ws (n_v vs 0) 5 + 0).toNat := fun h => by rw [h]
  have fe_0_5_1 : w_fi ws (n_v vs 0) 5 = w_fi w1 (n_v vs 0) 5 := congrArg v_iv (s1.2 _ _)
  have fe_0_8_1 : w_fi ws (n_v vs 0) 8 = w_fi w1 (n_v vs 0) 8 := congrArg v_iv (s1.2 _ _)
  have fe_0_11_1 : w_fi ws (n_v vs 0) 11 = w_fi w1 (n_v vs 0) 11 := congrArg v_iv (s1.2 _ _)
  have fe_0_12_1 : w_fi ws (n_v vs 0) 12 = w_fi w1 (n_v vs 0) 12 := congrArg v_iv (s1.2 _ _)
  have fe_0_15_1 : w_fi ws (n_v vs 0) 15 = w_fi w1 (n_v vs 0) 15 := congrArg v_iv (s1.2 _ _)
  first | (have ee_0_2_F5_0_1 : w_el ws (w_ar ws (n_v vs 0) 2) (w_fi ws (n_v vs 0) 5 + 0).toNat = w_el w1 (w_ar ws (n_v vs 0) 2) (w_fi ws (n_v vs 0) 5 + 0).toNat := by rw [s1.1, if_neg (fun e => absurd e.2 (by omega))]) | have ee_0_2_F5_0_1 : ((w_fi ws (n_v vs 0) 5 + 0).toNat = (v_iv (n_v vs 18)).toNat → w_el ws (w_ar ws (n_v vs 0) 2) (w_fi ws (n_v vs 0) 5 + 0).toNat = v_iv (n_v vs 21)) ∧ ((w_fi ws (n_v vs 0) 5 + 0).toNat ≠ (v_iv (n_v vs 18)).toNat → w_el ws (w_ar ws (n_v vs 0) 2) (w_fi ws (n_v vs 0) 5 + 0).toNat = w_el w1 (w_ar ws (n_v vs 0) 2) (w_fi ws (n_v vs 0) 5 + 0).toNat) := ⟨fun h => by rw [s1.1, if_pos ⟨ad_17.symm, h⟩], fun h => by rw [s1.1, if_neg (fun e => h e.2)]⟩
  first | (have ee_0_2_F5_1_1 : w_el ws (w_ar ws (n_v vs 0) 2) (w_fi ws (n_v vs 0) 5 + 1).toNat = w_el w1 (w_ar ws (n_v vs 0) 2) (w_fi ws (n_v vs 0) 5 + 1).toNat := by rw [s1.1, if_neg (fun e => absurd e.2 (by omega))]) | have ee_0_2_F5_1_1 : ((w_fi ws (n_v vs 0) 5 + 1).toNat = (v_iv (n_v vs 18)).toNat → w_el ws (w_ar ws (n_v vs 0) 2) (w_fi ws (n_v vs 0) 5 + 1).toNat = v_iv (n_v vs 21)) ∧ ((w_fi ws (n_v vs 0) 5 + 1).toNat ≠ (v_iv (n_v vs 18)).toNat → w_el ws (w_ar ws (n_v vs 0) 2) (w_fi ws (n_v vs 0) 5 + 1).toNat = w_el w1 (w_ar ws (n_v vs 0) 2) (w_fi ws (n_v vs 0) 5 + 1).toNat) := ⟨fun h => by rw [s1.1, if_pos ⟨ad_17.symm, h⟩], fun h => by rw [s1.1, if_neg (fun e => h e.2)]⟩
  have ee_0_2_18_1 : w_el ws (w_ar ws (n_v vs 0) 2) (v_iv (n_v vs 18)).toNat = v_iv (n_v vs 21) := by rw [s1.1, if_pos ⟨ad_17.symm, rfl⟩]
  have br_0_2_F5_0_0 : w_ei ws (w_ar ws (n_v vs 0) 2) (w_fi ws (n_v vs 0) 5 + 0) = w_el ws (w_ar ws (n_v vs 0) 2) (w_fi ws (n_v vs 0) 5 + 0).toNat := rfl
  have br_0_2_F5_0_1 : w_ei w1 (w_ar ws (n_v vs 0) 2) (w_fi ws (n_v vs 0) 5 + 0) = w_el w1 (w_ar ws (n_v vs 0) 2) (w_fi ws (n_v vs 0) 5 + 0).toNat := rfl
  have br_0_2_F5_1_0 : w_ei ws (w_ar ws (n_v vs 0) 2) (w_fi ws (n_v vs 0) 5 + 1) = w_el ws (w_ar ws (n_v vs 0) 2) (w_fi ws (n_v vs 0) 5 + 1).toNat := rfl
  have br_0_2_F5_1_1 : w_ei w1 (w_ar ws (n_v vs 0) 2) (w_fi ws (n_v vs 0) 5 + 1) = w_el w1 (w_ar ws (n_v vs 0) 2) (w_fi ws (n_v vs 0) 5 + 1).toNat := rfl
  have br_0_2_18_0 : w_ei ws (w_ar ws (n_v vs 0) 2) (v_iv (n_v vs 18)) = w_el ws (w_ar ws (n_v vs 0) 2) (v_iv (n_v vs 18)).toNat := rfl
  have br_0_2_18_1 : w_ei w1 (w_ar ws (n_v vs 0) 2) (v_iv (n_v vs 18)) = w_el w1 (w_ar ws (n_v vs 0) 2) (v_iv (n_v vs 18)).toNat := rfl
  have hE_0_2_1 : ∀ j : Int, 0 ≤ j → (j = v_iv (n_v vs 18) → w_ei ws (w_ar ws (n_v vs 0) 2) j = v_iv (n_v vs 21)) ∧ (j ≠ v_iv (n_v vs 18) → w_ei ws (w_ar ws (n_v vs 0) 2) j = w_ei w1 (w_ar ws (n_v vs 0) 2) j) := fun j hj => ⟨fun h => by unfold w_ei; rw [s1.1, if_pos ⟨ad_17.symm, by rw [h]⟩], fun h => by unfold w_ei; rw [s1.1, if_neg (fun e => h (by have := e.2; omega))]⟩
  have kz_0_8 : 0 ≤ w_fi ws (n_v vs 0) 8 ∧ w_fi ws (n_v vs 0) 8 ≤ 5 := tv_rng (th_fd hD hth r0 (g := GG_150) rfl (k := 8) (t := (0, 0, 5, [])) rfl rfl)
  have kz_0_11 : 0 ≤ w_fi ws (n_v vs 0) 11 ∧ w_fi ws (n_v vs 0) 11 ≤ 2000 := tv_rng (th_fd hD hth r0 (g := GG_150) rfl (k := 11) (t := (0, 0, 2000, [])) rfl rfl)
  have kz_0_12 : 0 ≤ w_fi ws (n_v vs 0) 12 ∧ w_fi ws (n_v vs 0) 12 ≤ 4 := tv_rng (th_fd hD hth r0 (g := GG_150) rfl (k := 12) (t := (0, 0, 4, [])) rfl rfl)
  have kz_0_15 : 0 ≤ w_fi ws (n_v vs 0) 15 ∧ w_fi ws (n_v vs 0) 15 ≤ 2000 := tv_rng (th_fd hD hth r0 (g := GG_150) rfl (k := 15) (t := (0, 0, 2000, [])) rfl rfl)
  first | have hJ0 : w_ei w1 (w_ar ws (n_v vs 0) 2) ((w_fi w1 (n_v vs 0) 5 + 2)) = w_ei w1 (w_ar ws (n_v vs 0) 2) ((w_fi ws (n_v vs 0) 5 + 2)) := congrArg _ (show ((w_fi w1 (n_v vs 0) 5 + 2) : Int) = (w_fi ws (n_v vs 0) 5 + 2) from by omega) | skip
  first | have hI1 := (hE_0_2_1 ((w_fi ws (n_v vs 0) 5 + 2)) (by omega)).2 (by omega) | have hI1 := (hE_0_2_1 ((w_fi ws (n_v vs 0) 5 + 2)) (by omega)).1 (by omega) | skip
  have rf27 : tv_ok ta (0, 0, 8, []) (n_v vs 27) := tv_in t27 (by first | omega | grind) (by first | omega | grind)
  refine ⟨List.forall_mem_cons.mpr ⟨rf27, (fun _ h => (by cases h))⟩, [], trivial, ?_, (fun _ h => (by cases h))⟩
  rw [List.append_nil]
  exact (fun _ h => (by cases h))
def o_Mo_met_16 : or_T := (171, 29, [(0, (2, 0, 0, [150])), (1, (0, 0, 7, [])), (2, (0, 0, 23, [])), (3, (0, 0, 2000, [])), (4, (0, 0, 2000, [])), (6, (0, 1, 1, [])), (9, (0, 0, 23, [])), (10, (0, 24, 24, [])), (11, (0, 48, 48, [])), (12, (0, 48, 48, [])), (15, (0, 0, 0, [])), (16, (0, 0, 23, [])), (17, (2, 0, 0, [152])), (18, (0, 0, 66297, [])), (19, (0, 0, 24, [])), (20, (0, 1, 1, [])), (21, (0, 1, 24, [])), (22, (0, 195, 195, [])), (23, (0, 195, 66492, [])), (24, (0, 195, 66515, [])), (25, (0, 0, 2000, [])), (26, (0, 0, 2000, [])), (27, (0, 0, 8, []))], [(20, [0, 0], [30, 0, 1, 1, 15, -1, 1, 11]), (20, [0], [50, 3, 0, 12, 11, 15, 2, 21, 4, 7, 1, 3, 2, 0, 12, 0, 1, 0, 3, 2, 0, 11, 4, 3, 2, 0, 15, 0, 8, 3, 7, 1, 3, 2, 0, 12, 0, 0, 0, 7, 4, 3, 2, 0, 15, 0, 1, 2, 0, 11]), (20, [3, 0], [30, 0, 1, 0, 0, -1, 1, 11]), (20, [0, 4], [50, 2, 0, 12, 11, 3, 7, 1, 3, 2, 0, 12, 0, 0, 0, 6, 4, 2, 1, 1, 0, 1, 2, 0, 11]), (20, [6, 0], [50, 1, 0, 1012, 4, 6, 1, 2, 1, 0, 0, 1, 1, 3, 2, 1, 12, 0, 1]), (20, [0], [30, -1, -1, 1, 8]), (100, [17, 24, 27], []), (2, [27, 25, 26], []), (9, [26, 0], [15]), (9, [25, 0], [11]), (1, [24, 23, 16], []), (1, [23, 18, 22], []), (9, [18, 0], [5]), (9, [17, 0], [2]), (20, [0, 0], [30, 0, 1, 1, 15, -1, 1, 11]), (20, [0], [50, 3, 0, 12, 11, 15, 2, 21, 4, 7, 1, 3, 2, 0, 12, 0, 1, 0, 3, 2, 0, 11, 4, 3, 2, 0, 15, 0, 8, 3, 7, 1, 3, 2, 0, 12, 0, 0, 0, 7, 4, 3, 2, 0, 15, 0, 1, 2, 0, 11]), (20, [3, 0], [30, 0, 1, 0, 0, -1, 1, 11]), (20, [0, 4], [50, 2, 0, 12, 11, 3, 7, 1, 3, 2, 0, 12, 0, 0, 0, 6, 4, 2, 1, 1, 0, 1, 2, 0, 11]), (20, [6, 0], [50, 1, 0, 1012, 4, 6, 1, 2, 1, 0, 0, 1, 1, 3, 2, 1, 12, 0, 1]), (20, [0], [30, -1, -1, 1, 8]), (100, [17, 18, 21], []), (1, [21, 19, 20], []), (10, [19, 17, 18], []), (20, [16, 0], [30, 0, 1, 0, 0, -1, 3, 2005000]), (20, [16, 0], [30, 0, -1, 0, 0, 1, 3, 2005000]), (8, [15], [5]), (9, [15, 0], [8]), (20, [11, 0], [30, 0, 1, 0, 0, -1, 3, 2005001]), (20, [11, 0], [30, 0, -1, 0, 0, 1, 3, 2005001]), (20, [9, 0], [30, 0, 1, 0, 0, -1, 3, 2005000]), (20, [9, 0], [30, 0, -1, 0, 0, 1, 3, 2005000]), (20, [0, 0], [30, 0, 1, 1, 15, -1, 1, 11]), (20, [0], [50, 3, 0, 12, 11, 15, 2, 21, 4, 7, 1, 3, 2, 0, 12, 0, 1, 0, 3, 2, 0, 11, 4, 3, 2, 0, 15, 0, 8, 3, 7, 1, 3, 2, 0, 12, 0, 0, 0, 7, 4, 3, 2, 0, 15, 0, 1, 2, 0, 11]), (20, [3, 0], [30, 0, 1, 0, 0, -1, 1, 11]), (20, [0, 4], [50, 2, 0, 12, 11, 3, 7, 1, 3, 2, 0, 12, 0, 0, 0, 6, 4, 2, 1, 1, 0, 1, 2, 0, 11]), (20, [1, 0], [50, 1, 1, 1005, 1002, 0, 6, 4, 2, 1, 0, 0, 1, 3, 1, 2, 4, 3, 2, 1, 5, 0, 2]), (20, [6, 0], [50, 1, 0, 1012, 4, 6, 1, 2, 1, 0, 0, 1, 1, 3, 2, 1, 12, 0, 1]), (20, [0], [30, -1, -1, 1, 8]), (102, [14], [0, 13008, 13009]), (7, [11, 12], [0]), (8, [2], [3]), (7, [9, 10], [1]), (8, [6], [1])], [], [], [(20, [4, 0], [30, -1, 1, 0, 0, -1, 1, 11]), (20, [0], [50, 1, 0, 12, 1, 3, 2, 0, 12, 0, 1]), (20, [2, 0], [50, 1, 1, 1005, 1002, 3, 6, 0, 2, 1, 0, 0, -1, 0, 10, 3, 1, 2, 4, 3, 2, 1, 5, 0, 1, 0, 47]), (20, [1, 0], [50, 1, 1, 1005, 1002, 0, 6, 4, 2, 1, 0, 0, 1, 3, 1, 2, 4, 3, 2, 1, 5, 0, 2]), (24, [0, 0], []), (24, [1, 1], []), (24, [2, 2], [])], [], [(27, 25, -2000, 0), (24, 16, 195, 66492), (24, 23, 0, 23), (24, 18, 195, 218), (23, 18, 195, 195), (21, 19, 1, 1)])
theorem oo_Mo_met_16 {kA : Nat → ClassId} : or_ok kA GG o_Mo_met_16 := by
  intro A ta ws vs hD hth hl hk hds hf
  have hl : vs.length = 29 := hl
  have hk : ∀ q ∈ ([(0, (2, 0, 0, [150])), (1, (0, 0, 7, [])), (2, (0, 0, 23, [])), (3, (0, 0, 2000, [])), (4, (0, 0, 2000, [])), (6, (0, 1, 1, [])), (9, (0, 0, 23, [])), (10, (0, 24, 24, [])), (11, (0, 48, 48, [])), (12, (0, 48, 48, [])), (15, (0, 0, 0, [])), (16, (0, 0, 23, [])), (17, (2, 0, 0, [152])), (18, (0, 0, 66297, [])), (19, (0, 0, 24, [])), (20, (0, 1, 1, [])), (21, (0, 1, 24, [])), (22, (0, 195, 195, [])), (23, (0, 195, 66492, [])), (24, (0, 195, 66515, [])), (25, (0, 0, 2000, [])), (26, (0, 0, 2000, [])), (27, (0, 0, 8, []))] : List (Nat × tv_T)), tv_ok ta q.2 (n_v vs q.1) := hk
  obtain ⟨t0, hk⟩ := List.forall_mem_cons.mp hk
  have t0 : tv_ok ta (2, 0, 0, [150]) (n_v vs 0) := t0
  have r0 : ta (v_ad (n_v vs 0)) = some 150 := tv_rg t0
  obtain ⟨t1, hk⟩ := List.forall_mem_cons.mp hk
  have t1 : tv_ok ta (0, 0, 7, []) (n_v vs 1) := t1
  have k1 : 0 ≤ v_iv (n_v vs 1) ∧ v_iv (n_v vs 1) ≤ 7 := tv_rng t1
  obtain ⟨t2, hk⟩ := List.forall_mem_cons.mp hk
  have t2 : tv_ok ta (0, 0, 23, []) (n_v vs 2) := t2
  have k2 : 0 ≤ v_iv (n_v vs 2) ∧ v_iv (n_v vs 2) ≤ 23 := tv_rng t2
  obtain ⟨t3, hk⟩ := List.forall_mem_cons.mp hk
  have t3 : tv_ok ta (0, 0, 2000, []) (n_v vs 3) := t3
  have k3 : 0 ≤ v_iv (n_v vs 3) ∧ v_iv (n_v vs 3) ≤ 2000 := tv_rng t3
  obtain ⟨t4, hk⟩ := List.forall_mem_cons.mp hk
  have t4 : tv_ok ta (0, 0, 2000, []) (n_v vs 4) := t4
  have k4 : 0 ≤ v_iv (n_v vs 4) ∧ v_iv (n_v vs 4) ≤ 2000 := tv_rng t4
  obtain ⟨t6, hk⟩ := List.forall_mem_cons.mp hk
  have t6 : tv_ok ta (0, 1, 1, []) (n_v vs 6) := t6
  have k6 : 1 ≤ v_iv (n_v vs 6) ∧ v_iv (n_v vs 6) ≤ 1 := tv_rng t6
  obtain ⟨t9, hk⟩ := List.forall_mem_cons.mp hk
  have t9 : tv_ok ta (0, 0, 23, []) (n_v vs 9) := t9
  have k9 : 0 ≤ v_iv (n_v vs 9) ∧ v_iv (n_v vs 9) ≤ 23 := tv_rng t9
  obtain ⟨t10, hk⟩ := List.forall_mem_cons.mp hk
  have t10 : tv_ok ta (0, 24, 24, []) (n_v vs 10) := t10
  have k10 : 24 ≤ v_iv (n_v vs 10) ∧ v_iv (n_v vs 10) ≤ 24 := tv_rng t10
  obtain ⟨t11, hk⟩ := List.forall_mem_cons.mp hk
  have t11 : tv_ok ta (0, 48, 48, []) (n_v vs 11) := t11
  have k11 : 48 ≤ v_iv (n_v vs 11) ∧ v_iv (n_v vs 11) ≤ 48 := tv_rng t11
  obtain ⟨t12, hk⟩ := List.forall_mem_cons.mp hk
  have t12 : tv_ok ta (0, 48, 48, []) (n_v vs 12) := t12
  have k12 : 48 ≤ v_iv (n_v vs 12) ∧ v_iv (n_v vs 12) ≤ 48 := tv_rng t12
  obtain ⟨t15, hk⟩ := List.forall_mem_cons.mp hk
  have t15 : tv_ok ta (0, 0, 0, []) (n_v vs 15) := t15
  have k15 : 0 ≤ v_iv (n_v vs 15) ∧ v_iv (n_v vs 15) ≤ 0 := tv_rng t15
  obtain ⟨t16, hk⟩ := List.forall_mem_cons.mp hk
  have t16 : tv_ok ta (0, 0, 23, []) (n_v vs 16) := t16
  have k16 : 0 ≤ v_iv (n_v vs 16) ∧ v_iv (n_v vs 16) ≤ 23 := tv_rng t16
  obtain ⟨t17, hk⟩ := List.forall_mem_cons.mp hk
  have t17 : tv_ok ta (2, 0, 0, [152]) (n_v vs 17) := t17
  have r17 : ta (v_ad (n_v vs 17)) = some 152 := tv_rg t17
  obtain ⟨t18, hk⟩ := List.forall_mem_cons.mp hk
  have t18 : tv_ok ta (0, 0, 66297, []) (n_v vs 18) := t18
  have k18 : 0 ≤ v_iv (n_v vs 18) ∧ v_iv (n_v vs 18) ≤ 66297 := tv_rng t18
  obtain ⟨t19, hk⟩ := List.forall_mem_cons.mp hk
  have t19 : tv_ok ta (0, 0, 24, []) (n_v vs 19) := t19
  have k19 : 0 ≤ v_iv (n_v vs 19) ∧ v_iv (n_v vs 19) ≤ 24 := tv_rng t19
  obtain ⟨t20, hk⟩ := List.forall_mem_cons.mp hk
  have t20 : tv_ok ta (0, 1, 1, []) (n_v vs 20) := t20
  have k20 : 1 ≤ v_iv (n_v vs 20) ∧ v_iv (n_v vs 20) ≤ 1 := tv_rng t20
  obtain ⟨t21, hk⟩ := List.forall_mem_cons.mp hk
  have t21 : tv_ok ta (0, 1, 24, []) (n_v vs 21) := t21
  have k21 : 1 ≤ v_iv (n_v vs 21) ∧ v_iv (n_v vs 21) ≤ 24 := tv_rng t21
  obtain ⟨t22, hk⟩ := List.forall_mem_cons.mp hk
  have t22 : tv_ok ta (0, 195, 195, []) (n_v vs 22) := t22
  have k22 : 195 ≤ v_iv (n_v vs 22) ∧ v_iv (n_v vs 22) ≤ 195 := tv_rng t22
  obtain ⟨t23, hk⟩ := List.forall_mem_cons.mp hk
  have t23 : tv_ok ta (0, 195, 66492, []) (n_v vs 23) := t23
  have k23 : 195 ≤ v_iv (n_v vs 23) ∧ v_iv (n_v vs 23) ≤ 66492 := tv_rng t23
  obtain ⟨t24, hk⟩ := List.forall_mem_cons.mp hk
  have t24 : tv_ok ta (0, 195, 66515, []) (n_v vs 24) := t24
  have k24 : 195 ≤ v_iv (n_v vs 24) ∧ v_iv (n_v vs 24) ≤ 66515 := tv_rng t24
  obtain ⟨t25, hk⟩ := List.forall_mem_cons.mp hk
  have t25 : tv_ok ta (0, 0, 2000, []) (n_v vs 25) := t25
  have k25 : 0 ≤ v_iv (n_v vs 25) ∧ v_iv (n_v vs 25) ≤ 2000 := tv_rng t25
  obtain ⟨t26, hk⟩ := List.forall_mem_cons.mp hk
  have t26 : tv_ok ta (0, 0, 2000, []) (n_v vs 26) := t26
  have k26 : 0 ≤ v_iv (n_v vs 26) ∧ v_iv (n_v vs 26) ≤ 2000 := tv_rng t26
  obtain ⟨t27, hk⟩ := List.forall_mem_cons.mp hk
  have t27 : tv_ok ta (0, 0, 8, []) (n_v vs 27) := t27
  have k27 : 0 ≤ v_iv (n_v vs 27) ∧ v_iv (n_v vs 27) ≤ 8 := tv_rng t27
  have hds : ∀ q ∈ ([(27, 25, -2000, 0), (24, 16, 195, 66492), (24, 23, 0, 23), (24, 18, 195, 218), (23, 18, 195, 195), (21, 19, 1, 1)] : List of_T), n_iv vs q.2.1 + q.2.2.1 ≤ n_iv vs q.1 ∧ n_iv vs q.1 ≤ n_iv vs q.2.1 + q.2.2.2 := hds
  obtain ⟨d0, hds⟩ := List.forall_mem_cons.mp hds
  have d0 : v_iv (n_v vs 25) + (-2000) ≤ v_iv (n_v vs 27) ∧ v_iv (n_v vs 27) ≤ v_iv (n_v vs 25) + 0 := d0
  obtain ⟨d1, hds⟩ := List.forall_mem_cons.mp hds
  have d1 : v_iv (n_v vs 16) + 195 ≤ v_iv (n_v vs 24) ∧ v_iv (n_v vs 24) ≤ v_iv (n_v vs 16) + 66492 := d1
  obtain ⟨d2, hds⟩ := List.forall_mem_cons.mp hds
  have d2 : v_iv (n_v vs 23) + 0 ≤ v_iv (n_v vs 24) ∧ v_iv (n_v vs 24) ≤ v_iv (n_v vs 23) + 23 := d2
  obtain ⟨d3, hds⟩ := List.forall_mem_cons.mp hds
  have d3 : v_iv (n_v vs 18) + 195 ≤ v_iv (n_v vs 24) ∧ v_iv (n_v vs 24) ≤ v_iv (n_v vs 18) + 218 := d3
  obtain ⟨d4, hds⟩ := List.forall_mem_cons.mp hds
  have d4 : v_iv (n_v vs 18) + 195 ≤ v_iv (n_v vs 23) ∧ v_iv (n_v vs 23) ≤ v_iv (n_v vs 18) + 195 := d4
  obtain ⟨d5, hds⟩ := List.forall_mem_cons.mp hds
  have d5 : v_iv (n_v vs 19) + 1 ≤ v_iv (n_v vs 21) ∧ v_iv (n_v vs 21) ≤ v_iv (n_v vs 19) + 1 := d5
  have hf : fc_ok [(20, [0, 0], [30, 0, 1, 1, 15, -1, 1, 11]), (20, [0], [50, 3, 0, 12, 11, 15, 2, 21, 4, 7, 1, 3, 2, 0, 12, 0, 1, 0, 3, 2, 0, 11, 4, 3, 2, 0, 15, 0, 8, 3, 7, 1, 3, 2, 0, 12, 0, 0, 0, 7, 4, 3, 2, 0, 15, 0, 1, 2, 0, 11]), (20, [3, 0], [30, 0, 1, 0, 0, -1, 1, 11]), (20, [0, 4], [50, 2, 0, 12, 11, 3, 7, 1, 3, 2, 0, 12, 0, 0, 0, 6, 4, 2, 1, 1, 0, 1, 2, 0, 11]), (20, [6, 0], [50, 1, 0, 1012, 4, 6, 1, 2, 1, 0, 0, 1, 1, 3, 2, 1, 12, 0, 1]), (20, [0], [30, -1, -1, 1, 8]), (100, [17, 24, 27], []), (2, [27, 25, 26], []), (9, [26, 0], [15]), (9, [25, 0], [11]), (1, [24, 23, 16], []), (1, [23, 18, 22], []), (9, [18, 0], [5]), (9, [17, 0], [2]), (20, [0, 0], [30, 0, 1, 1, 15, -1, 1, 11]), (20, [0], [50, 3, 0, 12, 11, 15, 2, 21, 4, 7, 1, 3, 2, 0, 12, 0, 1, 0, 3, 2, 0, 11, 4, 3, 2, 0, 15, 0, 8, 3, 7, 1, 3, 2, 0, 12, 0, 0, 0, 7, 4, 3, 2, 0, 15, 0, 1, 2, 0, 11]), (20, [3, 0], [30, 0, 1, 0, 0, -1, 1, 11]), (20, [0, 4], [50, 2, 0, 12, 11, 3, 7, 1, 3, 2, 0, 12, 0, 0, 0, 6, 4, 2, 1, 1, 0, 1, 2, 0, 11]), (20, [6, 0], [50, 1, 0, 1012, 4, 6, 1, 2, 1, 0, 0, 1, 1, 3, 2, 1, 12, 0, 1]), (20, [0], [30, -1, -1, 1, 8]), (100, [17, 18, 21], []), (1, [21, 19, 20], []), (10, [19, 17, 18], []), (20, [16, 0], [30, 0, 1, 0, 0, -1, 3, 2005000]), (20, [16, 0], [30, 0, -1, 0, 0, 1, 3, 2005000]), (8, [15], [5]), (9, [15, 0], [8]), (20, [11, 0], [30, 0, 1, 0, 0, -1, 3, 2005001]), (20, [11, 0], [30, 0, -1, 0, 0, 1, 3, 2005001]), (20, [9, 0], [30, 0, 1, 0, 0, -1, 3, 2005000]), (20, [9, 0], [30, 0, -1, 0, 0, 1, 3, 2005000]), (20, [0, 0], [30, 0, 1, 1, 15, -1, 1, 11]), (20, [0], [50, 3, 0, 12, 11, 15, 2, 21, 4, 7, 1, 3, 2, 0, 12, 0, 1, 0, 3, 2, 0, 11, 4, 3, 2, 0, 15, 0, 8, 3, 7, 1, 3, 2, 0, 12, 0, 0, 0, 7, 4, 3, 2, 0, 15, 0, 1, 2, 0, 11]), (20, [3, 0], [30, 0, 1, 0, 0, -1, 1, 11]), (20, [0, 4], [50, 2, 0, 12, 11, 3, 7, 1, 3, 2, 0, 12, 0, 0, 0, 6, 4, 2, 1, 1, 0, 1, 2, 0, 11]), (20, [1, 0], [50, 1, 1, 1005, 1002, 0, 6, 4, 2, 1, 0, 0, 1, 3, 1, 2, 4, 3, 2, 1, 5, 0, 2]), (20, [6, 0], [50, 1, 0, 1012, 4, 6, 1, 2, 1, 0, 0, 1, 1, 3, 2, 1, 12, 0, 1]), (20, [0], [30, -1, -1, 1, 8]), (102, [14], [0, 13008, 13009]), (7, [11, 12], [0]), (8, [2], [3]), (7, [9, 10], [1]), (8, [6], [1])] ta ws vs := hf
  obtain ⟨f0, hf⟩ := fc_un (show (20 : Nat) < 100 from by decide) hf
  have f0 : 1 * w_fi ws (n_v vs 0) 15 + ((-1) * w_fi ws (n_v vs 0) 11 + 0) ≤ 0 := f0
  obtain ⟨f1, hf⟩ := fc_un (show (20 : Nat) < 100 from by decide) hf
  have f1 : ((w_fi ws (n_v vs 0) 12 = 1) → (w_fi ws (n_v vs 0) 11 ≤ (w_fi ws (n_v vs 0) 15 + 8))) ∧ ((w_fi ws (n_v vs 0) 12 = 0) ∨ ((w_fi ws (n_v vs 0) 15 + 1) ≤ w_fi ws (n_v vs 0) 11)) := f1
  obtain ⟨f2, hf⟩ := fc_un (show (20 : Nat) < 100 from by decide) hf
  have f2 : 1 * v_iv (n_v vs 3) + ((-1) * w_fi ws (n_v vs 0) 11 + 0) ≤ 0 := f2
  obtain ⟨f3, hf⟩ := fc_un (show (20 : Nat) < 100 from by decide) hf
  have f3 : (w_fi ws (n_v vs 0) 12 = 0) ∨ ((v_iv (n_v vs 4) + 1) ≤ w_fi ws (n_v vs 0) 11) := f3
  obtain ⟨f4, hf⟩ := fc_un (show (20 : Nat) < 100 from by decide) hf
  have f4 : (v_iv (n_v vs 6) = 1) → (w_fi ws (n_v vs 0) 12 = 1) := f4
  obtain ⟨f5, hf⟩ := fc_un (show (20 : Nat) < 100 from by decide) hf
  have f5 : (-1) * w_fi ws (n_v vs 0) 8 + 0 ≤ (-1) := f5
  obtain ⟨ta1, w1, le1, ⟨_, s1⟩, hf⟩ := fc_us (show ¬ (100 : Nat) < 100 from by decide) hf
  have s1 : (∀ b j, w_el ws b j = if b = v_ad (n_v vs 17) ∧ j = (v_iv (n_v vs 24)).toNat then v_iv (n_v vs 27) else w_el w1 b j) ∧ ∀ b k, w_fd ws b k = w_fd w1 b k := s1
  obtain ⟨f7, hf⟩ := fc_un (show (2 : Nat) < 100 from by decide) hf
  have f7 : v_iv (n_v vs 27) = v_iv (n_v vs 25) - v_iv (n_v vs 26) := f7
  obtain ⟨f8, hf⟩ := fc_un (show (9 : Nat) < 100 from by decide) hf
  have f8 : n_v vs 26 = w_fd w1 (v_ad (n_v vs 0)) 15 := f8
  obtain ⟨f9, hf⟩ := fc_un (show (9 : Nat) < 100 from by decide) hf
  have f9 : n_v vs 25 = w_fd w1 (v_ad (n_v vs 0)) 11 := f9
  obtain ⟨f10, hf⟩ := fc_un (show (1 : Nat) < 100 from by decide) hf
  have f10 : v_iv (n_v vs 24) = v_iv (n_v vs 23) + v_iv (n_v vs 16) := f10
  obtain ⟨f11, hf⟩ := fc_un (show (1 : Nat) < 100 from by decide) hf
  have f11 : v_iv (n_v vs 23) = v_iv (n_v vs 18) + v_iv (n_v vs 22) := f11
  obtain ⟨f12, hf⟩ := fc_un (show (9 : Nat) < 100 from by decide) hf
  have f12 : n_v vs 18 = w_fd w1 (v_ad (n_v vs 0)) 5 := f12
  obtain ⟨f13, hf⟩ := fc_un (show (9 : Nat) < 100 from by decide) hf
  have f13 : n_v vs 17 = w_fd w1 (v_ad (n_v vs 0)) 2 := f13
  obtain ⟨f14, hf⟩ := fc_un (show (20 : Nat) < 100 from by decide) hf
  have f14 : 1 * w_fi w1 (n_v vs 0) 15 + ((-1) * w_fi w1 (n_v vs 0) 11 + 0) ≤ 0 := f14
  obtain ⟨f15, hf⟩ := fc_un (show (20 : Nat) < 100 from by decide) hf
  have f15 : ((w_fi w1 (n_v vs 0) 12 = 1) → (w_fi w1 (n_v vs 0) 11 ≤ (w_fi w1 (n_v vs 0) 15 + 8))) ∧ ((w_fi w1 (n_v vs 0) 12 = 0) ∨ ((w_fi w1 (n_v vs 0) 15 + 1) ≤ w_fi w1 (n_v vs 0) 11)) := f15
  obtain ⟨f16, hf⟩ := fc_un (show (20 : Nat) < 100 from by decide) hf
  have f16 : 1 * v_iv (n_v vs 3) + ((-1) * w_fi w1 (n_v vs 0) 11 + 0) ≤ 0 := f16
  obtain ⟨f17, hf⟩ := fc_un (show (20 : Nat) < 100 from by decide) hf
  have f17 : (w_fi w1 (n_v vs 0) 12 = 0) ∨ ((v_iv (n_v vs 4) + 1) ≤ w_fi w1 (n_v vs 0) 11) := f17
  obtain ⟨f18, hf⟩ := fc_un (show (20 : Nat) < 100 from by decide) hf
  have f18 : (v_iv (n_v vs 6) = 1) → (w_fi w1 (n_v vs 0) 12 = 1) := f18
  obtain ⟨f19, hf⟩ := fc_un (show (20 : Nat) < 100 from by decide) hf
  have f19 : (-1) * w_fi w1 (n_v vs 0) 8 + 0 ≤ (-1) := f19
  obtain ⟨ta2, w2, le2, ⟨_, s2⟩, hf⟩ := fc_us (show ¬ (100 : Nat) < 100 from by decide) hf
  have s2 : (∀ b j, w_el w1 b j = if b = v_ad (n_v vs 17) ∧ j = (v_iv (n_v vs 18)).toNat then v_iv (n_v vs 21) else w_el w2 b j) ∧ ∀ b k, w_fd w1 b k = w_fd w2 b k := s2
  obtain ⟨f21, hf⟩ := fc_un (show (1 : Nat) < 100 from by decide) hf
  have f21 : v_iv (n_v vs 21) = v_iv (n_v vs 19) + v_iv (n_v vs 20) := f21
  obtain ⟨f22, hf⟩ := fc_un (show (10 : Nat) < 100 from by decide) hf
  have f22 : v_iv (n_v vs 19) = w_el w2 (v_ad (n_v vs 17)) (v_iv (n_v vs 18)).toNat := f22
  obtain ⟨f23, hf⟩ := fc_un (show (20 : Nat) < 100 from by decide) hf
  have f23 : 1 * v_iv (n_v vs 16) + ((-1) * w_el w2 (w_ar w2 (n_v vs 0) 2) (w_fi w2 (n_v vs 0) 5 + 0).toNat + 0) ≤ 0 := f23
  obtain ⟨f24, hf⟩ := fc_un (show (20 : Nat) < 100 from by decide) hf
  have f24 : (-1) * v_iv (n_v vs 16) + (1 * w_el w2 (w_ar w2 (n_v vs 0) 2) (w_fi w2 (n_v vs 0) 5 + 0).toNat + 0) ≤ 0 := f24
  obtain ⟨f25, hf⟩ := fc_un (show (8 : Nat) < 100 from by decide) hf
  have f25 : v_iv (n_v vs 15) ≤ 0 := f25
  obtain ⟨f26, hf⟩ := fc_un (show (9 : Nat) < 100 from by decide) hf
  have f26 : n_v vs 15 = w_fd w2 (v_ad (n_v vs 0)) 8 := f26
  obtain ⟨f27, hf⟩ := fc_un (show (20 : Nat) < 100 from by decide) hf
  have f27 : 1 * v_iv (n_v vs 11) + ((-1) * w_el w2 (w_ar w2 (n_v vs 0) 2) (w_fi w2 (n_v vs 0) 5 + 1).toNat + 0) ≤ 0 := f27
  obtain ⟨f28, hf⟩ := fc_un (show (20 : Nat) < 100 from by decide) hf
  have f28 : (-1) * v_iv (n_v vs 11) + (1 * w_el w2 (w_ar w2 (n_v vs 0) 2) (w_fi w2 (n_v vs 0) 5 + 1).toNat + 0) ≤ 0 := f28
  obtain ⟨f29, hf⟩ := fc_un (show (20 : Nat) < 100 from by decide) hf
  have f29 : 1 * v_iv (n_v vs 9) + ((-1) * w_el w2 (w_ar w2 (n_v vs 0) 2) (w_fi w2 (n_v vs 0) 5 + 0).toNat + 0) ≤ 0 := f29
  obtain ⟨f30, hf⟩ := fc_un (show (20 : Nat) < 100 from by decide) hf
  have f30 : (-1) * v_iv (n_v vs 9) + (1 * w_el w2 (w_ar w2 (n_v vs 0) 2) (w_fi w2 (n_v vs 0) 5 + 0).toNat + 0) ≤ 0 := f30
  obtain ⟨f31, hf⟩ := fc_un (show (20 : Nat) < 100 from by decide) hf
  have f31 : 1 * w_fi w2 (n_v vs 0) 15 + ((-1) * w_fi w2 (n_v vs 0) 11 + 0) ≤ 0 := f31
  obtain ⟨f32, hf⟩ := fc_un (show (20 : Nat) < 100 from by decide) hf
  have f32 : ((w_fi w2 (n_v vs 0) 12 = 1) → (w_fi w2 (n_v vs 0) 11 ≤ (w_fi w2 (n_v vs 0) 15 + 8))) ∧ ((w_fi w2 (n_v vs 0) 12 = 0) ∨ ((w_fi w2 (n_v vs 0) 15 + 1) ≤ w_fi w2 (n_v vs 0) 11)) := f32
  obtain ⟨f33, hf⟩ := fc_un (show (20 : Nat) < 100 from by decide) hf
  have f33 : 1 * v_iv (n_v vs 3) + ((-1) * w_fi w2 (n_v vs 0) 11 + 0) ≤ 0 := f33
  obtain ⟨f34, hf⟩ := fc_un (show (20 : Nat) < 100 from by decide) hf
  have f34 : (w_fi w2 (n_v vs 0) 12 = 0) ∨ ((v_iv (n_v vs 4) + 1) ≤ w_fi w2 (n_v vs 0) 11) := f34
  obtain ⟨f35, hf⟩ := fc_un (show (20 : Nat) < 100 from by decide) hf
  have f35 : (v_iv (n_v vs 1) + 1) ≤ w_ei w2 (w_ar w2 (n_v vs 0) 2) ((w_fi w2 (n_v vs 0) 5 + 2)) := f35
  obtain ⟨f36, hf⟩ := fc_un (show (20 : Nat) < 100 from by decide) hf
  have f36 : (v_iv (n_v vs 6) = 1) → (w_fi w2 (n_v vs 0) 12 = 1) := f36
  obtain ⟨f37, hf⟩ := fc_un (show (20 : Nat) < 100 from by decide) hf
  have f37 : (-1) * w_fi w2 (n_v vs 0) 8 + 0 ≤ (-1) := f37
  obtain ⟨ta3, w3, le3, ⟨_, s3⟩, hf⟩ := fc_us (show ¬ (102 : Nat) < 100 from by decide) hf
  obtain ⟨f39, hf⟩ := fc_un (show (7 : Nat) < 100 from by decide) hf
  have f39 : v_iv (n_v vs 11) = v_iv (n_v vs 12) := f39
  obtain ⟨f40, hf⟩ := fc_un (show (8 : Nat) < 100 from by decide) hf
  have f40 : 0 ≤ v_iv (n_v vs 2) := f40
  obtain ⟨f41, hf⟩ := fc_un (show (7 : Nat) < 100 from by decide) hf
  have f41 : v_iv (n_v vs 9) ≠ v_iv (n_v vs 10) := f41
  obtain ⟨f42, hf⟩ := fc_un (show (8 : Nat) < 100 from by decide) hf
  have f42 : v_iv (n_v vs 6) ≠ 0 := f42
  have ar_0_2_1 : w_ar w1 (n_v vs 0) 2 = w_ar ws (n_v vs 0) 2 := by show v_ad (w_fd w1 _ _) = v_ad (w_fd ws _ _); rw [s1.2]
  have ar_0_2_2 : w_ar w2 (n_v vs 0) 2 = w_ar ws (n_v vs 0) 2 := by rw [← ar_0_2_1]; show v_ad (w_fd w2 _ _) = v_ad (w_fd w1 _ _); rw [s2.2]
  have cr_0_2 : ta (w_ar ws (n_v vs 0) 2) = some 152 := tv_rg (th_fd hD hth r0 (g := GG_150) rfl (k := 2) (t := (2, 0, 0, [152])) rfl rfl)
  have fi_0_5_1 : w_fi w1 (n_v vs 0) 5 = w_fi ws (n_v vs 0) 5 := by show v_iv (w_fd w1 _ _) = v_iv (w_fd ws _ _); rw [s1.2]
  have fi_0_5_2 : w_fi w2 (n_v vs 0) 5 = w_fi ws (n_v vs 0) 5 := by rw [← fi_0_5_1]; show v_iv (w_fd w2 _ _) = v_iv (w_fd w1 _ _); rw [s2.2]
  have ad_17 : v_ad (n_v vs 17) = w_ar ws (n_v vs 0) 2 := (congrArg v_ad f13).trans ar_0_2_1
  have g8 : v_iv (n_v vs 26) = w_fi w1 (n_v vs 0) 15 := congrArg v_iv f8
  have g9 : v_iv (n_v vs 25) = w_fi w1 (n_v vs 0) 11 := congrArg v_iv f9
  have g12 : v_iv (n_v vs 18) = w_fi w1 (n_v vs 0) 5 := congrArg v_iv f12
  rw [ad_17] at f22
  have h22 : v_iv (n_v vs 19) = w_ei w2 (w_ar ws (n_v vs 0) 2) (v_iv (n_v vs 18)) := f22
  rw [ar_0_2_2] at f23
  rw [fi_0_5_2] at f23
  rw [ar_0_2_2] at f24
  rw [fi_0_5_2] at f24
  have g26 : v_iv (n_v vs 15) = w_fi w2 (n_v vs 0) 8 := congrArg v_iv f26
  rw [ar_0_2_2] at f27
  rw [fi_0_5_2] at f27
  rw [ar_0_2_2] at f28
  rw [fi_0_5_2] at f28
  rw [ar_0_2_2] at f29
  rw [fi_0_5_2] at f29
  rw [ar_0_2_2] at f30
  rw [fi_0_5_2] at f30
  rw [ar_0_2_2] at f35
  have cg22_F5_1 : v_iv (n_v vs 18) = w_fi ws (n_v vs 0) 5 + 1 → w_el w2 (w_ar ws (n_v vs 0) 2) (v_iv (n_v vs 18)).toNat = w_el w2 (w_ar ws (n_v vs 0) 2) (w_fi ws (n_v vs 0) 5 + 1).toNat := fun h => by rw [h]
  have cg22_F5_0 : v_iv (n_v vs 18) = w_fi ws (n_v vs 0) 5 + 0 → w_el w2 (w_ar ws (n_v vs 0) 2) (v_iv (n_v vs 18)).toNat = w_el w2 (w_ar ws (n_v vs 0) 2) (w_fi ws (n_v vs 0) 5 + 0).toNat := fun h => by rw [h]
  have fe_0_5_1 : w_fi ws (n_v vs 0) 5 = w_fi w1 (n_v vs 0) 5 := congrArg v_iv (s1.2 _ _)
  have fe_0_8_1 : w_fi ws (n_v vs 0) 8 = w_fi w1 (n_v vs 0) 8 := congrArg v_iv (s1.2 _ _)
  have fe_0_11_1 : w_fi ws (n_v vs 0) 11 = w_fi w1 (n_v vs 0) 11 := congrArg v_iv (s1.2 _ _)
  have fe_0_12_1 : w_fi ws (n_v vs 0) 12 = w_fi w1 (n_v vs 0) 12 := congrArg v_iv (s1.2 _ _)
  have fe_0_15_1 : w_fi ws (n_v vs 0) 15 = w_fi w1 (n_v vs 0) 15 := congrArg v_iv (s1.2 _ _)
  first | (have ee_0_2_F5_0_1 : w_el ws (w_ar ws (n_v vs 0) 2) (w_fi ws (n_v vs 0) 5 + 0).toNat = w_el w1 (w_ar ws (n_v vs 0) 2) (w_fi ws (n_v vs 0) 5 + 0).toNat := by rw [s1.1, if_neg (fun e => absurd e.2 (by omega))]) | have ee_0_2_F5_0_1 : ((w_fi ws (n_v vs 0) 5 + 0).toNat = (v_iv (n_v vs 24)).toNat → w_el ws (w_ar ws (n_v vs 0) 2) (w_fi ws (n_v vs 0) 5 + 0).toNat = v_iv (n_v vs 27)) ∧ ((w_fi ws (n_v vs 0) 5 + 0).toNat ≠ (v_iv (n_v vs 24)).toNat → w_el ws (w_ar ws (n_v vs 0) 2) (w_fi ws (n_v vs 0) 5 + 0).toNat = w_el w1 (w_ar ws (n_v vs 0) 2) (w_fi ws (n_v vs 0) 5 + 0).toNat) := ⟨fun h => by rw [s1.1, if_pos ⟨ad_17.symm, h⟩], fun h => by rw [s1.1, if_neg (fun e => h e.2)]⟩
  first | (have ee_0_2_F5_1_1 : w_el ws (w_ar ws (n_v vs 0) 2) (w_fi ws (n_v vs 0) 5 + 1).toNat = w_el w1 (w_ar ws (n_v vs 0) 2) (w_fi ws (n_v vs 0) 5 + 1).toNat := by rw [s1.1, if_neg (fun e => absurd e.2 (by omega))]) | have ee_0_2_F5_1_1 : ((w_fi ws (n_v vs 0) 5 + 1).toNat = (v_iv (n_v vs 24)).toNat → w_el ws (w_ar ws (n_v vs 0) 2) (w_fi ws (n_v vs 0) 5 + 1).toNat = v_iv (n_v vs 27)) ∧ ((w_fi ws (n_v vs 0) 5 + 1).toNat ≠ (v_iv (n_v vs 24)).toNat → w_el ws (w_ar ws (n_v vs 0) 2) (w_fi ws (n_v vs 0) 5 + 1).toNat = w_el w1 (w_ar ws (n_v vs 0) 2) (w_fi ws (n_v vs 0) 5 + 1).toNat) := ⟨fun h => by rw [s1.1, if_pos ⟨ad_17.symm, h⟩], fun h => by rw [s1.1, if_neg (fun e => h e.2)]⟩
  have ee_0_2_18_1 : ((v_iv (n_v vs 18)).toNat = (v_iv (n_v vs 24)).toNat → w_el ws (w_ar ws (n_v vs 0) 2) (v_iv (n_v vs 18)).toNat = v_iv (n_v vs 27)) ∧ ((v_iv (n_v vs 18)).toNat ≠ (v_iv (n_v vs 24)).toNat → w_el ws (w_ar ws (n_v vs 0) 2) (v_iv (n_v vs 18)).toNat = w_el w1 (w_ar ws (n_v vs 0) 2) (v_iv (n_v vs 18)).toNat) := ⟨fun h => by rw [s1.1, if_pos ⟨ad_17.symm, h⟩], fun h => by rw [s1.1, if_neg (fun e => h e.2)]⟩
  have fe_0_5_2 : w_fi w1 (n_v vs 0) 5 = w_fi w2 (n_v vs 0) 5 := congrArg v_iv (s2.2 _ _)
  have fe_0_8_2 : w_fi w1 (n_v vs 0) 8 = w_fi w2 (n_v vs 0) 8 := congrArg v_iv (s2.2 _ _)
  have fe_0_11_2 : w_fi w1 (n_v vs 0) 11 = w_fi w2 (n_v vs 0) 11 := congrArg v_iv (s2.2 _ _)
  have fe_0_12_2 : w_fi w1 (n_v vs 0) 12 = w_fi w2 (n_v vs 0) 12 := congrArg v_iv (s2.2 _ _)
  have fe_0_15_2 : w_fi w1 (n_v vs 0) 15 = w_fi w2 (n_v vs 0) 15 := congrArg v_iv (s2.2 _ _)
  first | (have ee_0_2_F5_0_2 : w_el w1 (w_ar ws (n_v vs 0) 2) (w_fi ws (n_v vs 0) 5 + 0).toNat = w_el w2 (w_ar ws (n_v vs 0) 2) (w_fi ws (n_v vs 0) 5 + 0).toNat := by rw [s2.1, if_neg (fun e => absurd e.2 (by omega))]) | have ee_0_2_F5_0_2 : ((w_fi ws (n_v vs 0) 5 + 0).toNat = (v_iv (n_v vs 18)).toNat → w_el w1 (w_ar ws (n_v vs 0) 2) (w_fi ws (n_v vs 0) 5 + 0).toNat = v_iv (n_v vs 21)) ∧ ((w_fi ws (n_v vs 0) 5 + 0).toNat ≠ (v_iv (n_v vs 18)).toNat → w_el w1 (w_ar ws (n_v vs 0) 2) (w_fi ws (n_v vs 0) 5 + 0).toNat = w_el w2 (w_ar ws (n_v vs 0) 2) (w_fi ws (n_v vs 0) 5 + 0).toNat) := ⟨fun h => by rw [s2.1, if_pos ⟨ad_17.symm, h⟩], fun h => by rw [s2.1, if_neg (fun e => h e.2)]⟩
  first | (have ee_0_2_F5_1_2 : w_el w1 (w_ar ws (n_v vs 0) 2) (w_fi ws (n_v vs 0) 5 + 1).toNat = w_el w2 (w_ar ws (n_v vs 0) 2) (w_fi ws (n_v vs 0) 5 + 1).toNat := by rw [s2.1, if_neg (fun e => absurd e.2 (by omega))]) | have ee_0_2_F5_1_2 : ((w_fi ws (n_v vs 0) 5 + 1).toNat = (v_iv (n_v vs 18)).toNat → w_el w1 (w_ar ws (n_v vs 0) 2) (w_fi ws (n_v vs 0) 5 + 1).toNat = v_iv (n_v vs 21)) ∧ ((w_fi ws (n_v vs 0) 5 + 1).toNat ≠ (v_iv (n_v vs 18)).toNat → w_el w1 (w_ar ws (n_v vs 0) 2) (w_fi ws (n_v vs 0) 5 + 1).toNat = w_el w2 (w_ar ws (n_v vs 0) 2) (w_fi ws (n_v vs 0) 5 + 1).toNat) := ⟨fun h => by rw [s2.1, if_pos ⟨ad_17.symm, h⟩], fun h => by rw [s2.1, if_neg (fun e => h e.2)]⟩
  have ee_0_2_18_2 : w_el w1 (w_ar ws (n_v vs 0) 2) (v_iv (n_v vs 18)).toNat = v_iv (n_v vs 21) := by rw [s2.1, if_pos ⟨ad_17.symm, rfl⟩]
  have br_0_2_F5_0_0 : w_ei ws (w_ar ws (n_v vs 0) 2) (w_fi ws (n_v vs 0) 5 + 0) = w_el ws (w_ar ws (n_v vs 0) 2) (w_fi ws (n_v vs 0) 5 + 0).toNat := rfl
  have br_0_2_F5_0_1 : w_ei w1 (w_ar ws (n_v vs 0) 2) (w_fi ws (n_v vs 0) 5 + 0) = w_el w1 (w_ar ws (n_v vs 0) 2) (w_fi ws (n_v vs 0) 5 + 0).toNat := rfl
  have br_0_2_F5_0_2 : w_ei w2 (w_ar ws (n_v vs 0) 2) (w_fi ws (n_v vs 0) 5 + 0) = w_el w2 (w_ar ws (n_v vs 0) 2) (w_fi ws (n_v vs 0) 5 + 0).toNat := rfl
  have br_0_2_F5_1_0 : w_ei ws (w_ar ws (n_v vs 0) 2) (w_fi ws (n_v vs 0) 5 + 1) = w_el ws (w_ar ws (n_v vs 0) 2) (w_fi ws (n_v vs 0) 5 + 1).toNat := rfl
  have br_0_2_F5_1_1 : w_ei w1 (w_ar ws (n_v vs 0) 2) (w_fi ws (n_v vs 0) 5 + 1) = w_el w1 (w_ar ws (n_v vs 0) 2) (w_fi ws (n_v vs 0) 5 + 1).toNat := rfl
  have br_0_2_F5_1_2 : w_ei w2 (w_ar ws (n_v vs 0) 2) (w_fi ws (n_v vs 0) 5 + 1) = w_el w2 (w_ar ws (n_v vs 0) 2) (w_fi ws (n_v vs 0) 5 + 1).toNat := rfl
  have br_0_2_18_0 : w_ei ws (w_ar ws (n_v vs 0) 2) (v_iv (n_v vs 18)) = w_el ws (w_ar ws (n_v vs 0) 2) (v_iv (n_v vs 18)).toNat := rfl
  have br_0_2_18_1 : w_ei w1 (w_ar ws (n_v vs 0) 2) (v_iv (n_v vs 18)) = w_el w1 (w_ar ws (n_v vs 0) 2) (v_iv (n_v vs 18)).toNat := rfl
  have br_0_2_18_2 : w_ei w2 (w_ar ws (n_v vs 0) 2) (v_iv (n_v vs 18)) = w_el w2 (w_ar ws (n_v vs 0) 2) (v_iv (n_v vs 18)).toNat := rfl
  have hE_0_2_1 : ∀ j : Int, 0 ≤ j → (j = v_iv (n_v vs 24) → w_ei ws (w_ar ws (n_v vs 0) 2) j = v_iv (n_v vs 27)) ∧ (j ≠ v_iv (n_v vs 24) → w_ei ws (w_ar ws (n_v vs 0) 2) j = w_ei w1 (w_ar ws (n_v vs 0) 2) j) := fun j hj => ⟨fun h => by unfold w_ei; rw [s1.1, if_pos ⟨ad_17.symm, by rw [h]⟩], fun h => by unfold w_ei; rw [s1.1, if_neg (fun e => h (by have := e.2; omega))]⟩
  have hE_0_2_2 : ∀ j : Int, 0 ≤ j → (j = v_iv (n_v vs 18) → w_ei w1 (w_ar ws (n_v vs 0) 2) j = v_iv (n_v vs 21)) ∧ (j ≠ v_iv (n_v vs 18) → w_ei w1 (w_ar ws (n_v vs 0) 2) j = w_ei w2 (w_ar ws (n_v vs 0) 2) j) := fun j hj => ⟨fun h => by unfold w_ei; rw [s2.1, if_pos ⟨ad_17.symm, by rw [h]⟩], fun h => by unfold w_ei; rw [s2.1, if_neg (fun e => h (by have := e.2; omega))]⟩
  have kz_0_8 : 0 ≤ w_fi ws (n_v vs 0) 8 ∧ w_fi ws (n_v vs 0) 8 ≤ 5 := tv_rng (th_fd hD hth r0 (g := GG_150) rfl (k := 8) (t := (0, 0, 5, [])) rfl rfl)
  have kz_0_11 : 0 ≤ w_fi ws (n_v vs 0) 11 ∧ w_fi ws (n_v vs 0) 11 ≤ 2000 := tv_rng (th_fd hD hth r0 (g := GG_150) rfl (k := 11) (t := (0, 0, 2000, [])) rfl rfl)
  have kz_0_12 : 0 ≤ w_fi ws (n_v vs 0) 12 ∧ w_fi ws (n_v vs 0) 12 ≤ 4 := tv_rng (th_fd hD hth r0 (g := GG_150) rfl (k := 12) (t := (0, 0, 4, [])) rfl rfl)
  have kz_0_15 : 0 ≤ w_fi ws (n_v vs 0) 15 ∧ w_fi ws (n_v vs 0) 15 ≤ 2000 := tv_rng (th_fd hD hth r0 (g := GG_150) rfl (k := 15) (t := (0, 0, 2000, [])) rfl rfl)
  first | have hJ0 : w_ei w2 (w_ar ws (n_v vs 0) 2) ((w_fi w2 (n_v vs 0) 5 + 2)) = w_ei w2 (w_ar ws (n_v vs 0) 2) ((w_fi ws (n_v vs 0) 5 + 2)) := congrArg _ (show ((w_fi w2 (n_v vs 0) 5 + 2) : Int) = (w_fi ws (n_v vs 0) 5 + 2) from by omega) | skip
  first | have hI1 := (hE_0_2_1 ((w_fi ws (n_v vs 0) 5 + 2)) (by omega)).2 (by omega) | have hI1 := (hE_0_2_1 ((w_fi ws (n_v vs 0) 5 + 2)) (by omega)).1 (by omega) | skip
  first | have hI2 := (hE_0_2_2 ((w_fi ws (n_v vs 0) 5 + 2)) (by omega)).2 (by omega) | have hI2 := (hE_0_2_2 ((w_fi ws (n_v vs 0) 5 + 2)) (by omega)).1 (by omega) | skip
  first | have hI3 := (hE_0_2_1 ((w_fi ws (n_v vs 0) 5 + 1)) (by omega)).2 (by omega) | have hI3 := (hE_0_2_1 ((w_fi ws (n_v vs 0) 5 + 1)) (by omega)).1 (by omega) | skip
  first | have hI4 := (hE_0_2_2 ((w_fi ws (n_v vs 0) 5 + 1)) (by omega)).2 (by omega) | have hI4 := (hE_0_2_2 ((w_fi ws (n_v vs 0) 5 + 1)) (by omega)).1 (by omega) | skip
  have nf0 : fc_1 (20, [4, 0], [30, -1, 1, 0, 0, -1, 1, 11]) ws (vs) := by
    refine ⟨fun n hn => ?_, ?_⟩
    · have hn : n ∈ [4, 0] := hn
      rw [hl]
      simp only [List.mem_cons, List.not_mem_nil, or_false] at hn
      show n < 29; omega
    · show 1 * v_iv (n_v vs 4) + ((-1) * w_fi ws (n_v vs 0) 11 + 0) ≤ (-1)
      omega
  have nf1 : fc_1 (20, [0], [50, 1, 0, 12, 1, 3, 2, 0, 12, 0, 1]) ws (vs) := by
    refine ⟨fun n hn => ?_, ?_⟩
    · have hn : n ∈ [0] := hn
      rw [hl]
      simp only [List.mem_cons, List.not_mem_nil, or_false] at hn
      show n < 29; omega
    · show w_fi ws (n_v vs 0) 12 = 1
      first | omega | grind
  have nf2 : fc_1 (20, [2, 0], [50, 1, 1, 1005, 1002, 3, 6, 0, 2, 1, 0, 0, -1, 0, 10, 3, 1, 2, 4, 3, 2, 1, 5, 0, 1, 0, 47]) ws (vs) := by
    refine ⟨fun n hn => ?_, ?_⟩
    · have hn : n ∈ [2, 0] := hn
      rw [hl]
      simp only [List.mem_cons, List.not_mem_nil, or_false] at hn
      show n < 29; omega
    · show (v_iv (n_v vs 2) ≤ (-1)) ∨ (w_ei ws (w_ar ws (n_v vs 0) 2) ((w_fi ws (n_v vs 0) 5 + 1)) ≤ 47)
      first | omega | grind
  have nf3 : fc_1 (20, [1, 0], [50, 1, 1, 1005, 1002, 0, 6, 4, 2, 1, 0, 0, 1, 3, 1, 2, 4, 3, 2, 1, 5, 0, 2]) ws (vs) := by
    refine ⟨fun n hn => ?_, ?_⟩
    · have hn : n ∈ [1, 0] := hn
      rw [hl]
      simp only [List.mem_cons, List.not_mem_nil, or_false] at hn
      show n < 29; omega
    · show (v_iv (n_v vs 1) + 1) ≤ w_ei ws (w_ar ws (n_v vs 0) 2) ((w_fi ws (n_v vs 0) 5 + 2))
      first | omega | grind
  have nf4 : fc_1 (24, [0, 0], []) ws (vs) := by
    refine ⟨fun n hn => ?_, ?_⟩
    · have hn : n ∈ [0, 0] := hn
      rw [hl]
      simp only [List.mem_cons, List.not_mem_nil, or_false] at hn
      show n < 29; omega
    · show n_v vs 0 = n_v vs 0
      first | rfl | simp only [true_and]
  have nf5 : fc_1 (24, [1, 1], []) ws (vs) := by
    refine ⟨fun n hn => ?_, ?_⟩
    · have hn : n ∈ [1, 1] := hn
      rw [hl]
      simp only [List.mem_cons, List.not_mem_nil, or_false] at hn
      show n < 29; omega
    · show n_v vs 1 = n_v vs 1
      first | rfl | simp only [true_and]
  have nf6 : fc_1 (24, [2, 2], []) ws (vs) := by
    refine ⟨fun n hn => ?_, ?_⟩
    · have hn : n ∈ [2, 2] := hn
      rw [hl]
      simp only [List.mem_cons, List.not_mem_nil, or_false] at hn
      show n < 29; omega
    · show n_v vs 2 = n_v vs 2
      first | rfl | simp only [true_and]
  refine ⟨(fun _ h => (by cases h)), [], trivial, ?_, (fun _ h => (by cases h))⟩
  rw [List.append_nil]
  exact List.forall_mem_cons.mpr ⟨⟨show (20 : Nat) < 100 from by decide, nf0⟩, List.forall_mem_cons.mpr ⟨⟨show (20 : Nat) < 100 from by decide, nf1⟩, List.forall_mem_cons.mpr ⟨⟨show (20 : Nat) < 100 from by decide, nf2⟩, List.forall_mem_cons.mpr ⟨⟨show (20 : Nat) < 100 from by decide, nf3⟩, List.forall_mem_cons.mpr ⟨⟨show (24 : Nat) < 100 from by decide, nf4⟩, List.forall_mem_cons.mpr ⟨⟨show (24 : Nat) < 100 from by decide, nf5⟩, List.forall_mem_cons.mpr ⟨⟨show (24 : Nat) < 100 from by decide, nf6⟩, (fun _ h => (by cases h))⟩⟩⟩⟩⟩⟩⟩
def o_Mo_met_17 : or_T := (121, 17, [(0, (2, 0, 0, [150])), (1, (0, 0, 7, [])), (2, (0, 0, 23, [])), (3, (0, 0, 2000, [])), (4, (0, 0, 2000, [])), (6, (0, 1, 1, [])), (9, (0, 0, 23, [])), (10, (0, 24, 24, [])), (11, (0, 48, 48, [])), (12, (0, 48, 48, [])), (15, (0, 1, 5, [])), (16, (0, -1, -1, []))], [(8, [15], [4]), (9, [15, 0], [8]), (20, [11, 0], [30, 0, 1, 0, 0, -1, 3, 2005001]), (20, [11, 0], [30, 0, -1, 0, 0, 1, 3, 2005001]), (20, [9, 0], [30, 0, 1, 0, 0, -1, 3, 2005000]), (20, [9, 0], [30, 0, -1, 0, 0, 1, 3, 2005000]), (20, [0, 0], [30, 0, 1, 1, 15, -1, 1, 11]), (20, [0], [50, 3, 0, 12, 11, 15, 2, 21, 4, 7, 1, 3, 2, 0, 12, 0, 1, 0, 3, 2, 0, 11, 4, 3, 2, 0, 15, 0, 8, 3, 7, 1, 3, 2, 0, 12, 0, 0, 0, 7, 4, 3, 2, 0, 15, 0, 1, 2, 0, 11]), (20, [3, 0], [30, 0, 1, 0, 0, -1, 1, 11]), (20, [0, 4], [50, 2, 0, 12, 11, 3, 7, 1, 3, 2, 0, 12, 0, 0, 0, 6, 4, 2, 1, 1, 0, 1, 2, 0, 11]), (20, [1, 0], [50, 1, 1, 1005, 1002, 0, 6, 4, 2, 1, 0, 0, 1, 3, 1, 2, 4, 3, 2, 1, 5, 0, 2]), (20, [6, 0], [50, 1, 0, 1012, 4, 6, 1, 2, 1, 0, 0, 1, 1, 3, 2, 1, 12, 0, 1]), (20, [0], [30, -1, -1, 1, 8]), (102, [14], [0, 13008, 13009]), (7, [11, 12], [0]), (8, [2], [3]), (7, [9, 10], [1]), (8, [6], [1])], [], [], [(20, [0, 3], [50, 3, 0, 8, 12, 11, 3, 7, 0, 2, 0, 1, 2, 0, 8, 3, 7, 1, 3, 2, 0, 12, 0, 0, 0, 6, 4, 2, 1, 1, 0, 1, 2, 0, 11]), (20, [0, 4], [50, 2, 0, 8, 11, 3, 7, 0, 2, 0, 1, 2, 0, 8, 0, 6, 4, 2, 1, 1, 0, 1, 2, 0, 11]), (20, [0, 16], [31, 1, -1, -1, 1, 8, 0, -1, 0, 0]), (20, [0, 2], [50, 2, 1, 8, 5, 2, 3, 7, 0, 2, 0, 1, 2, 0, 8, 3, 6, 0, 2, 1, 1, 0, -1, 0, 10, 3, 0, 2, 4, 3, 2, 0, 5, 0, 1, 0, 47])], [], [])
theorem oo_Mo_met_17 {kA : Nat → ClassId} : or_ok kA GG o_Mo_met_17 := by
  intro A ta ws vs hD hth hl hk hds hf
  have hl : vs.length = 17 := hl
  have hk : ∀ q ∈ ([(0, (2, 0, 0, [150])), (1, (0, 0, 7, [])), (2, (0, 0, 23, [])), (3, (0, 0, 2000, [])), (4, (0, 0, 2000, [])), (6, (0, 1, 1, [])), (9, (0, 0, 23, [])), (10, (0, 24, 24, [])), (11, (0, 48, 48, [])), (12, (0, 48, 48, [])), (15, (0, 1, 5, [])), (16, (0, -1, -1, []))] : List (Nat × tv_T)), tv_ok ta q.2 (n_v vs q.1) := hk
  obtain ⟨t0, hk⟩ := List.forall_mem_cons.mp hk
  have t0 : tv_ok ta (2, 0, 0, [150]) (n_v vs 0) := t0
  have r0 : ta (v_ad (n_v vs 0)) = some 150 := tv_rg t0
  obtain ⟨t1, hk⟩ := List.forall_mem_cons.mp hk
  have t1 : tv_ok ta (0, 0, 7, []) (n_v vs 1) := t1
  have k1 : 0 ≤ v_iv (n_v vs 1) ∧ v_iv (n_v vs 1) ≤ 7 := tv_rng t1
  obtain ⟨t2, hk⟩ := List.forall_mem_cons.mp hk
  have t2 : tv_ok ta (0, 0, 23, []) (n_v vs 2) := t2
  have k2 : 0 ≤ v_iv (n_v vs 2) ∧ v_iv (n_v vs 2) ≤ 23 := tv_rng t2
  obtain ⟨t3, hk⟩ := List.forall_mem_cons.mp hk
  have t3 : tv_ok ta (0, 0, 2000, []) (n_v vs 3) := t3
  have k3 : 0 ≤ v_iv (n_v vs 3) ∧ v_iv (n_v vs 3) ≤ 2000 := tv_rng t3
  obtain ⟨t4, hk⟩ := List.forall_mem_cons.mp hk
  have t4 : tv_ok ta (0, 0, 2000, []) (n_v vs 4) := t4
  have k4 : 0 ≤ v_iv (n_v vs 4) ∧ v_iv (n_v vs 4) ≤ 2000 := tv_rng t4
  obtain ⟨t6, hk⟩ := List.forall_mem_cons.mp hk
  have t6 : tv_ok ta (0, 1, 1, []) (n_v vs 6) := t6
  have k6 : 1 ≤ v_iv (n_v vs 6) ∧ v_iv (n_v vs 6) ≤ 1 := tv_rng t6
  obtain ⟨t9, hk⟩ := List.forall_mem_cons.mp hk
  have t9 : tv_ok ta (0, 0, 23, []) (n_v vs 9) := t9
  have k9 : 0 ≤ v_iv (n_v vs 9) ∧ v_iv (n_v vs 9) ≤ 23 := tv_rng t9
  obtain ⟨t10, hk⟩ := List.forall_mem_cons.mp hk
  have t10 : tv_ok ta (0, 24, 24, []) (n_v vs 10) := t10
  have k10 : 24 ≤ v_iv (n_v vs 10) ∧ v_iv (n_v vs 10) ≤ 24 := tv_rng t10
  obtain ⟨t11, hk⟩ := List.forall_mem_cons.mp hk
  have t11 : tv_ok ta (0, 48, 48, []) (n_v vs 11) := t11
  have k11 : 48 ≤ v_iv (n_v vs 11) ∧ v_iv (n_v vs 11) ≤ 48 := tv_rng t11
  obtain ⟨t12, hk⟩ := List.forall_mem_cons.mp hk
  have t12 : tv_ok ta (0, 48, 48, []) (n_v vs 12) := t12
  have k12 : 48 ≤ v_iv (n_v vs 12) ∧ v_iv (n_v vs 12) ≤ 48 := tv_rng t12
  obtain ⟨t15, hk⟩ := List.forall_mem_cons.mp hk
  have t15 : tv_ok ta (0, 1, 5, []) (n_v vs 15) := t15
  have k15 : 1 ≤ v_iv (n_v vs 15) ∧ v_iv (n_v vs 15) ≤ 5 := tv_rng t15
  obtain ⟨t16, hk⟩ := List.forall_mem_cons.mp hk
  have t16 : tv_ok ta (0, -1, -1, []) (n_v vs 16) := t16
  have k16 : (-1) ≤ v_iv (n_v vs 16) ∧ v_iv (n_v vs 16) ≤ (-1) := tv_rng t16
  have hf : fc_ok [(8, [15], [4]), (9, [15, 0], [8]), (20, [11, 0], [30, 0, 1, 0, 0, -1, 3, 2005001]), (20, [11, 0], [30, 0, -1, 0, 0, 1, 3, 2005001]), (20, [9, 0], [30, 0, 1, 0, 0, -1, 3, 2005000]), (20, [9, 0], [30, 0, -1, 0, 0, 1, 3, 2005000]), (20, [0, 0], [30, 0, 1, 1, 15, -1, 1, 11]), (20, [0], [50, 3, 0, 12, 11, 15, 2, 21, 4, 7, 1, 3, 2, 0, 12, 0, 1, 0, 3, 2, 0, 11, 4, 3, 2, 0, 15, 0, 8, 3, 7, 1, 3, 2, 0, 12, 0, 0, 0, 7, 4, 3, 2, 0, 15, 0, 1, 2, 0, 11]), (20, [3, 0], [30, 0, 1, 0, 0, -1, 1, 11]), (20, [0, 4], [50, 2, 0, 12, 11, 3, 7, 1, 3, 2, 0, 12, 0, 0, 0, 6, 4, 2, 1, 1, 0, 1, 2, 0, 11]), (20, [1, 0], [50, 1, 1, 1005, 1002, 0, 6, 4, 2, 1, 0, 0, 1, 3, 1, 2, 4, 3, 2, 1, 5, 0, 2]), (20, [6, 0], [50, 1, 0, 1012, 4, 6, 1, 2, 1, 0, 0, 1, 1, 3, 2, 1, 12, 0, 1]), (20, [0], [30, -1, -1, 1, 8]), (102, [14], [0, 13008, 13009]), (7, [11, 12], [0]), (8, [2], [3]), (7, [9, 10], [1]), (8, [6], [1])] ta ws vs := hf
  obtain ⟨f0, hf⟩ := fc_un (show (8 : Nat) < 100 from by decide) hf
  have f0 : 0 < v_iv (n_v vs 15) := f0
  obtain ⟨f1, hf⟩ := fc_un (show (9 : Nat) < 100 from by decide) hf
  have f1 : n_v vs 15 = w_fd ws (v_ad (n_v vs 0)) 8 := f1
  obtain ⟨f2, hf⟩ := fc_un (show (20 : Nat) < 100 from by decide) hf
  have f2 : 1 * v_iv (n_v vs 11) + ((-1) * w_el ws (w_ar ws (n_v vs 0) 2) (w_fi ws (n_v vs 0) 5 + 1).toNat + 0) ≤ 0 := f2
  obtain ⟨f3, hf⟩ := fc_un (show (20 : Nat) < 100 from by decide) hf
  have f3 : (-1) * v_iv (n_v vs 11) + (1 * w_el ws (w_ar ws (n_v vs 0) 2) (w_fi ws (n_v vs 0) 5 + 1).toNat + 0) ≤ 0 := f3
  obtain ⟨f4, hf⟩ := fc_un (show (20 : Nat) < 100 from by decide) hf
  have f4 : 1 * v_iv (n_v vs 9) + ((-1) * w_el ws (w_ar ws (n_v vs 0) 2) (w_fi ws (n_v vs 0) 5 + 0).toNat + 0) ≤ 0 := f4
  obtain ⟨f5, hf⟩ := fc_un (show (20 : Nat) < 100 from by decide) hf
  have f5 : (-1) * v_iv (n_v vs 9) + (1 * w_el ws (w_ar ws (n_v vs 0) 2) (w_fi ws (n_v vs 0) 5 + 0).toNat + 0) ≤ 0 := f5
  obtain ⟨f6, hf⟩ := fc_un (show (20 : Nat) < 100 from by decide) hf
  have f6 : 1 * w_fi ws (n_v vs 0) 15 + ((-1) * w_fi ws (n_v vs 0) 11 + 0) ≤ 0 := f6
  obtain ⟨f7, hf⟩ := fc_un (show (20 : Nat) < 100 from by decide) hf
  have f7 : ((w_fi ws (n_v vs 0) 12 = 1) → (w_fi ws (n_v vs 0) 11 ≤ (w_fi ws (n_v vs 0) 15 + 8))) ∧ ((w_fi ws (n_v vs 0) 12 = 0) ∨ ((w_fi ws (n_v vs 0) 15 + 1) ≤ w_fi ws (n_v vs 0) 11)) := f7
  obtain ⟨f8, hf⟩ := fc_un (show (20 : Nat) < 100 from by decide) hf
  have f8 : 1 * v_iv (n_v vs 3) + ((-1) * w_fi ws (n_v vs 0) 11 + 0) ≤ 0 := f8
  obtain ⟨f9, hf⟩ := fc_un (show (20 : Nat) < 100 from by decide) hf
  have f9 : (w_fi ws (n_v vs 0) 12 = 0) ∨ ((v_iv (n_v vs 4) + 1) ≤ w_fi ws (n_v vs 0) 11) := f9
  obtain ⟨f10, hf⟩ := fc_un (show (20 : Nat) < 100 from by decide) hf
  have f10 : (v_iv (n_v vs 1) + 1) ≤ w_ei ws (w_ar ws (n_v vs 0) 2) ((w_fi ws (n_v vs 0) 5 + 2)) := f10
  obtain ⟨f11, hf⟩ := fc_un (show (20 : Nat) < 100 from by decide) hf
  have f11 : (v_iv (n_v vs 6) = 1) → (w_fi ws (n_v vs 0) 12 = 1) := f11
  obtain ⟨f12, hf⟩ := fc_un (show (20 : Nat) < 100 from by decide) hf
  have f12 : (-1) * w_fi ws (n_v vs 0) 8 + 0 ≤ (-1) := f12
  obtain ⟨ta1, w1, le1, ⟨_, s1⟩, hf⟩ := fc_us (show ¬ (102 : Nat) < 100 from by decide) hf
  obtain ⟨f14, hf⟩ := fc_un (show (7 : Nat) < 100 from by decide) hf
  have f14 : v_iv (n_v vs 11) = v_iv (n_v vs 12) := f14
  obtain ⟨f15, hf⟩ := fc_un (show (8 : Nat) < 100 from by decide) hf
  have f15 : 0 ≤ v_iv (n_v vs 2) := f15
  obtain ⟨f16, hf⟩ := fc_un (show (7 : Nat) < 100 from by decide) hf
  have f16 : v_iv (n_v vs 9) ≠ v_iv (n_v vs 10) := f16
  obtain ⟨f17, hf⟩ := fc_un (show (8 : Nat) < 100 from by decide) hf
  have f17 : v_iv (n_v vs 6) ≠ 0 := f17
  have cr_0_2 : ta (w_ar ws (n_v vs 0) 2) = some 152 := tv_rg (th_fd hD hth r0 (g := GG_150) rfl (k := 2) (t := (2, 0, 0, [152])) rfl rfl)
  have g1 : v_iv (n_v vs 15) = w_fi ws (n_v vs 0) 8 := congrArg v_iv f1
  have br_0_2_F5_0_0 : w_ei ws (w_ar ws (n_v vs 0) 2) (w_fi ws (n_v vs 0) 5 + 0) = w_el ws (w_ar ws (n_v vs 0) 2) (w_fi ws (n_v vs 0) 5 + 0).toNat := rfl
  have br_0_2_F5_1_0 : w_ei ws (w_ar ws (n_v vs 0) 2) (w_fi ws (n_v vs 0) 5 + 1) = w_el ws (w_ar ws (n_v vs 0) 2) (w_fi ws (n_v vs 0) 5 + 1).toNat := rfl
  have kz_0_8 : 0 ≤ w_fi ws (n_v vs 0) 8 ∧ w_fi ws (n_v vs 0) 8 ≤ 5 := tv_rng (th_fd hD hth r0 (g := GG_150) rfl (k := 8) (t := (0, 0, 5, [])) rfl rfl)
  have kz_0_11 : 0 ≤ w_fi ws (n_v vs 0) 11 ∧ w_fi ws (n_v vs 0) 11 ≤ 2000 := tv_rng (th_fd hD hth r0 (g := GG_150) rfl (k := 11) (t := (0, 0, 2000, [])) rfl rfl)
  have kz_0_12 : 0 ≤ w_fi ws (n_v vs 0) 12 ∧ w_fi ws (n_v vs 0) 12 ≤ 4 := tv_rng (th_fd hD hth r0 (g := GG_150) rfl (k := 12) (t := (0, 0, 4, [])) rfl rfl)
  have kz_0_15 : 0 ≤ w_fi ws (n_v vs 0) 15 ∧ w_fi ws (n_v vs 0) 15 ≤ 2000 := tv_rng (th_fd hD hth r0 (g := GG_150) rfl (k := 15) (t := (0, 0, 2000, [])) rfl rfl)
  have nf0 : fc_1 (20, [0, 3], [50, 3, 0, 8, 12, 11, 3, 7, 0, 2, 0, 1, 2, 0, 8, 3, 7, 1, 3, 2, 0, 12, 0, 0, 0, 6, 4, 2, 1, 1, 0, 1, 2, 0, 11]) ws (vs) := by
    refine ⟨fun n hn => ?_, ?_⟩
    · have hn : n ∈ [0, 3] := hn
      rw [hl]
      simp only [List.mem_cons, List.not_mem_nil, or_false] at hn
      show n < 17; omega
    · show (1 ≤ w_fi ws (n_v vs 0) 8) ∨ ((w_fi ws (n_v vs 0) 12 = 0) ∨ ((v_iv (n_v vs 3) + 1) ≤ w_fi ws (n_v vs 0) 11))
      first | omega | grind
  have nf1 : fc_1 (20, [0, 4], [50, 2, 0, 8, 11, 3, 7, 0, 2, 0, 1, 2, 0, 8, 0, 6, 4, 2, 1, 1, 0, 1, 2, 0, 11]) ws (vs) := by
    refine ⟨fun n hn => ?_, ?_⟩
    · have hn : n ∈ [0, 4] := hn
      rw [hl]
      simp only [List.mem_cons, List.not_mem_nil, or_false] at hn
      show n < 17; omega
    · show (1 ≤ w_fi ws (n_v vs 0) 8) ∨ ((v_iv (n_v vs 4) + 1) ≤ w_fi ws (n_v vs 0) 11)
      first | omega | grind
  have nf2 : fc_1 (20, [0, 16], [31, 1, -1, -1, 1, 8, 0, -1, 0, 0]) ws (vs) := by
    refine ⟨fun n hn => ?_, ?_⟩
    · have hn : n ∈ [0, 16] := hn
      rw [hl]
      simp only [List.mem_cons, List.not_mem_nil, or_false] at hn
      show n < 17; omega
    · show ((-1) * w_fi ws (n_v vs 0) 8 + 0 ≤ (-1)) ∨ ((-1) * v_iv (n_v vs 16) + 0 ≤ 0)
      omega
  have nf3 : fc_1 (20, [0, 2], [50, 2, 1, 8, 5, 2, 3, 7, 0, 2, 0, 1, 2, 0, 8, 3, 6, 0, 2, 1, 1, 0, -1, 0, 10, 3, 0, 2, 4, 3, 2, 0, 5, 0, 1, 0, 47]) ws (vs) := by
    refine ⟨fun n hn => ?_, ?_⟩
    · have hn : n ∈ [0, 2] := hn
      rw [hl]
      simp only [List.mem_cons, List.not_mem_nil, or_false] at hn
      show n < 17; omega
    · show (1 ≤ w_fi ws (n_v vs 0) 8) ∨ ((v_iv (n_v vs 2) ≤ (-1)) ∨ (w_ei ws (w_ar ws (n_v vs 0) 2) ((w_fi ws (n_v vs 0) 5 + 1)) ≤ 47))
      first | omega | grind
  refine ⟨(fun _ h => (by cases h)), [], trivial, ?_, (fun _ h => (by cases h))⟩
  rw [List.append_nil]
  exact List.forall_mem_cons.mpr ⟨⟨show (20 : Nat) < 100 from by decide, nf0⟩, List.forall_mem_cons.mpr ⟨⟨show (20 : Nat) < 100 from by decide, nf1⟩, List.forall_mem_cons.mpr ⟨⟨show (20 : Nat) < 100 from by decide, nf2⟩, List.forall_mem_cons.mpr ⟨⟨show (20 : Nat) < 100 from by decide, nf3⟩, (fun _ h => (by cases h))⟩⟩⟩⟩
def o_Mo_met_18 : or_T := (254, 9, [(0, (2, 0, 0, [150])), (1, (0, 0, 7, [])), (2, (0, -1, -1, [])), (3, (0, 0, 2000, [])), (4, (0, 0, 2000, [])), (6, (0, 1, 1, []))], [(8, [2], [2]), (8, [2], [2]), (8, [6], [1]), (20, [0, 0], [30, 0, 1, 1, 15, -1, 1, 11]), (20, [0], [50, 3, 0, 12, 11, 15, 2, 21, 4, 7, 1, 3, 2, 0, 12, 0, 1, 0, 3, 2, 0, 11, 4, 3, 2, 0, 15, 0, 8, 3, 7, 1, 3, 2, 0, 12, 0, 0, 0, 7, 4, 3, 2, 0, 15, 0, 1, 2, 0, 11]), (20, [3, 0], [30, 0, 1, 0, 0, -1, 1, 11]), (20, [0, 4], [50, 2, 0, 12, 11, 3, 7, 1, 3, 2, 0, 12, 0, 0, 0, 6, 4, 2, 1, 1, 0, 1, 2, 0, 11]), (20, [1, 0], [50, 1, 1, 1005, 1002, 0, 6, 4, 2, 1, 0, 0, 1, 3, 1, 2, 4, 3, 2, 1, 5, 0, 2]), (20, [6, 0], [50, 1, 0, 1012, 4, 6, 1, 2, 1, 0, 0, 1, 1, 3, 2, 1, 12, 0, 1])], [], [(0, 0, 2000, [])], [(20, [2, 0], [50, 1, 1, 1005, 1002, 3, 6, 0, 2, 1, 0, 0, -1, 0, 10, 3, 1, 2, 4, 3, 2, 1, 5, 0, 1, 0, 47]), (20, [9, 0], [30, 0, 1, 0, 0, -1, 1, 11]), (23, [3, 9], [0, 1, -1]), (23, [4, 9], [-1, 1, -1])], [], [])
theorem oo_Mo_met_18 {kA : Nat → ClassId} : or_ok kA GG o_Mo_met_18 := by
  intro A ta ws vs hD hth hl hk hds hf
  have hl : vs.length = 9 := hl
  have hk : ∀ q ∈ ([(0, (2, 0, 0, [150])), (1, (0, 0, 7, [])), (2, (0, -1, -1, [])), (3, (0, 0, 2000, [])), (4, (0, 0, 2000, [])), (6, (0, 1, 1, []))] : List (Nat × tv_T)), tv_ok ta q.2 (n_v vs q.1) := hk
  obtain ⟨t0, hk⟩ := List.forall_mem_cons.mp hk
  have t0 : tv_ok ta (2, 0, 0, [150]) (n_v vs 0) := t0
  have r0 : ta (v_ad (n_v vs 0)) = some 150 := tv_rg t0
  obtain ⟨t1, hk⟩ := List.forall_mem_cons.mp hk
  have t1 : tv_ok ta (0, 0, 7, []) (n_v vs 1) := t1
  have k1 : 0 ≤ v_iv (n_v vs 1) ∧ v_iv (n_v vs 1) ≤ 7 := tv_rng t1
  obtain ⟨t2, hk⟩ := List.forall_mem_cons.mp hk
  have t2 : tv_ok ta (0, -1, -1, []) (n_v vs 2) := t2
  have k2 : (-1) ≤ v_iv (n_v vs 2) ∧ v_iv (n_v vs 2) ≤ (-1) := tv_rng t2
  obtain ⟨t3, hk⟩ := List.forall_mem_cons.mp hk
  have t3 : tv_ok ta (0, 0, 2000, []) (n_v vs 3) := t3
  have k3 : 0 ≤ v_iv (n_v vs 3) ∧ v_iv (n_v vs 3) ≤ 2000 := tv_rng t3
  obtain ⟨t4, hk⟩ := List.forall_mem_cons.mp hk
  have t4 : tv_ok ta (0, 0, 2000, []) (n_v vs 4) := t4
  have k4 : 0 ≤ v_iv (n_v vs 4) ∧ v_iv (n_v vs 4) ≤ 2000 := tv_rng t4
  obtain ⟨t6, hk⟩ := List.forall_mem_cons.mp hk
  have t6 : tv_ok ta (0, 1, 1, []) (n_v vs 6) := t6
  have k6 : 1 ≤ v_iv (n_v vs 6) ∧ v_iv (n_v vs 6) ≤ 1 := tv_rng t6
  have hf : fc_ok [(8, [2], [2]), (8, [2], [2]), (8, [6], [1]), (20, [0, 0], [30, 0, 1, 1, 15, -1, 1, 11]), (20, [0], [50, 3, 0, 12, 11, 15, 2, 21, 4, 7, 1, 3, 2, 0, 12, 0, 1, 0, 3, 2, 0, 11, 4, 3, 2, 0, 15, 0, 8, 3, 7, 1, 3, 2, 0, 12, 0, 0, 0, 7, 4, 3, 2, 0, 15, 0, 1, 2, 0, 11]), (20, [3, 0], [30, 0, 1, 0, 0, -1, 1, 11]), (20, [0, 4], [50, 2, 0, 12, 11, 3, 7, 1, 3, 2, 0, 12, 0, 0, 0, 6, 4, 2, 1, 1, 0, 1, 2, 0, 11]), (20, [1, 0], [50, 1, 1, 1005, 1002, 0, 6, 4, 2, 1, 0, 0, 1, 3, 1, 2, 4, 3, 2, 1, 5, 0, 2]), (20, [6, 0], [50, 1, 0, 1012, 4, 6, 1, 2, 1, 0, 0, 1, 1, 3, 2, 1, 12, 0, 1])] ta ws vs := hf
  obtain ⟨f0, hf⟩ := fc_un (show (8 : Nat) < 100 from by decide) hf
  have f0 : v_iv (n_v vs 2) < 0 := f0
  obtain ⟨f1, hf⟩ := fc_un (show (8 : Nat) < 100 from by decide) hf
  have f1 : v_iv (n_v vs 2) < 0 := f1
  obtain ⟨f2, hf⟩ := fc_un (show (8 : Nat) < 100 from by decide) hf
  have f2 : v_iv (n_v vs 6) ≠ 0 := f2
  obtain ⟨f3, hf⟩ := fc_un (show (20 : Nat) < 100 from by decide) hf
  have f3 : 1 * w_fi ws (n_v vs 0) 15 + ((-1) * w_fi ws (n_v vs 0) 11 + 0) ≤ 0 := f3
  obtain ⟨f4, hf⟩ := fc_un (show (20 : Nat) < 100 from by decide) hf
  have f4 : ((w_fi ws (n_v vs 0) 12 = 1) → (w_fi ws (n_v vs 0) 11 ≤ (w_fi ws (n_v vs 0) 15 + 8))) ∧ ((w_fi ws (n_v vs 0) 12 = 0) ∨ ((w_fi ws (n_v vs 0) 15 + 1) ≤ w_fi ws (n_v vs 0) 11)) := f4
  obtain ⟨f5, hf⟩ := fc_un (show (20 : Nat) < 100 from by decide) hf
  have f5 : 1 * v_iv (n_v vs 3) + ((-1) * w_fi ws (n_v vs 0) 11 + 0) ≤ 0 := f5
  obtain ⟨f6, hf⟩ := fc_un (show (20 : Nat) < 100 from by decide) hf
  have f6 : (w_fi ws (n_v vs 0) 12 = 0) ∨ ((v_iv (n_v vs 4) + 1) ≤ w_fi ws (n_v vs 0) 11) := f6
  obtain ⟨f7, hf⟩ := fc_un (show (20 : Nat) < 100 from by decide) hf
  have f7 : (v_iv (n_v vs 1) + 1) ≤ w_ei ws (w_ar ws (n_v vs 0) 2) ((w_fi ws (n_v vs 0) 5 + 2)) := f7
  obtain ⟨f8, hf⟩ := fc_un (show (20 : Nat) < 100 from by decide) hf
  have f8 : (v_iv (n_v vs 6) = 1) → (w_fi ws (n_v vs 0) 12 = 1) := f8
  have cr_0_2 : ta (w_ar ws (n_v vs 0) 2) = some 152 := tv_rg (th_fd hD hth r0 (g := GG_150) rfl (k := 2) (t := (2, 0, 0, [152])) rfl rfl)
  have kz_0_11 : 0 ≤ w_fi ws (n_v vs 0) 11 ∧ w_fi ws (n_v vs 0) 11 ≤ 2000 := tv_rng (th_fd hD hth r0 (g := GG_150) rfl (k := 11) (t := (0, 0, 2000, [])) rfl rfl)
  have kz_0_12 : 0 ≤ w_fi ws (n_v vs 0) 12 ∧ w_fi ws (n_v vs 0) 12 ≤ 4 := tv_rng (th_fd hD hth r0 (g := GG_150) rfl (k := 12) (t := (0, 0, 4, [])) rfl rfl)
  have kz_0_15 : 0 ≤ w_fi ws (n_v vs 0) 15 ∧ w_fi ws (n_v vs 0) 15 ≤ 2000 := tv_rng (th_fd hD hth r0 (g := GG_150) rfl (k := 15) (t := (0, 0, 2000, [])) rfl rfl)
  have kv0 : 0 ≤ w_fi ws (n_v vs 0) 11 ∧ w_fi ws (n_v vs 0) 11 ≤ 2000 := tv_rng (th_fd hD hth r0 (g := GG_150) rfl (k := 11) (t := (0, 0, 2000, [])) rfl rfl)
  obtain ⟨x, ex, hx⟩ := iv_ex (ta := ta) (lo := 0) (hi := 2000) (z := w_fi ws (n_v vs 0) 11) (by omega) (by omega) (by omega) (by omega)
  have ex2 : v_iv (Value.int x) = w_fi ws (n_v vs 0) 11 := ex
  have ex3 : 0 ≤ v_iv (Value.int x) ∧ v_iv (Value.int x) ≤ 2000 := tv_rng hx
  have e_0 : n_v (vs ++ [Value.int x]) 0 = n_v vs 0 := n_v_old (by rw [hl]; decide)
  have e_2 : n_v (vs ++ [Value.int x]) 2 = n_v vs 2 := n_v_old (by rw [hl]; decide)
  have e_3 : n_v (vs ++ [Value.int x]) 3 = n_v vs 3 := n_v_old (by rw [hl]; decide)
  have e_4 : n_v (vs ++ [Value.int x]) 4 = n_v vs 4 := n_v_old (by rw [hl]; decide)
  have e_9 : n_v (vs ++ [Value.int x]) 9 = Value.int x := n_v_new hl
  have nf0 : fc_1 (20, [2, 0], [50, 1, 1, 1005, 1002, 3, 6, 0, 2, 1, 0, 0, -1, 0, 10, 3, 1, 2, 4, 3, 2, 1, 5, 0, 1, 0, 47]) ws (vs ++ [Value.int x]) := by
    refine ⟨fun n hn => ?_, ?_⟩
    · have hn : n ∈ [2, 0] := hn
      rw [List.length_append, hl]
      simp only [List.mem_cons, List.not_mem_nil, or_false] at hn
      show n < 9 + 1; omega
    · show (v_iv (n_v (vs ++ [Value.int x]) 2) ≤ (-1)) ∨ (w_ei ws (w_ar ws (n_v (vs ++ [Value.int x]) 0) 2) ((w_fi ws (n_v (vs ++ [Value.int x]) 0) 5 + 1)) ≤ 47)
      rw [e_0]
      rw [e_2]
      first | omega | grind
  have nf1 : fc_1 (20, [9, 0], [30, 0, 1, 0, 0, -1, 1, 11]) ws (vs ++ [Value.int x]) := by
    refine ⟨fun n hn => ?_, ?_⟩
    · have hn : n ∈ [9, 0] := hn
      rw [List.length_append, hl]
      simp only [List.mem_cons, List.not_mem_nil, or_false] at hn
      show n < 9 + 1; omega
    · show 1 * v_iv (n_v (vs ++ [Value.int x]) 9) + ((-1) * w_fi ws (n_v (vs ++ [Value.int x]) 0) 11 + 0) ≤ 0
      rw [e_0]
      rw [e_9]
      omega
  have nf2 : fc_1 (23, [3, 9], [0, 1, -1]) ws (vs ++ [Value.int x]) := by
    refine ⟨fun n hn => ?_, ?_⟩
    · have hn : n ∈ [3, 9] := hn
      rw [List.length_append, hl]
      simp only [List.mem_cons, List.not_mem_nil, or_false] at hn
      show n < 9 + 1; omega
    · show 1 * v_iv (n_v (vs ++ [Value.int x]) 3) + ((-1) * v_iv (n_v (vs ++ [Value.int x]) 9) + 0) ≤ 0
      rw [e_3]
      rw [e_9]
      omega
  have nf3 : fc_1 (23, [4, 9], [-1, 1, -1]) ws (vs ++ [Value.int x]) := by
    refine ⟨fun n hn => ?_, ?_⟩
    · have hn : n ∈ [4, 9] := hn
      rw [List.length_append, hl]
      simp only [List.mem_cons, List.not_mem_nil, or_false] at hn
      show n < 9 + 1; omega
    · show 1 * v_iv (n_v (vs ++ [Value.int x]) 4) + ((-1) * v_iv (n_v (vs ++ [Value.int x]) 9) + 0) ≤ (-1)
      rw [e_4]
      rw [e_9]
      omega
  exact ⟨(fun _ h => (by cases h)), [Value.int x], ag_one hx, List.forall_mem_cons.mpr ⟨⟨show (20 : Nat) < 100 from by decide, nf0⟩, List.forall_mem_cons.mpr ⟨⟨show (20 : Nat) < 100 from by decide, nf1⟩, List.forall_mem_cons.mpr ⟨⟨show (23 : Nat) < 100 from by decide, nf2⟩, List.forall_mem_cons.mpr ⟨⟨show (23 : Nat) < 100 from by decide, nf3⟩, (fun _ h => (by cases h))⟩⟩⟩⟩, (fun _ h => (by cases h))⟩
def o_Mo_met_19 : or_T := (258, 10, [(0, (2, 0, 0, [150])), (1, (0, 0, 7, [])), (2, (0, -1, -1, [])), (3, (0, 0, 2000, [])), (4, (0, 0, 2000, [])), (7, (0, 0, 23, [])), (9, (0, 0, 2000, []))], [(20, [2, 0], [50, 1, 1, 1005, 1002, 3, 6, 0, 2, 1, 0, 0, -1, 0, 10, 3, 1, 2, 4, 3, 2, 1, 5, 0, 1, 0, 47]), (23, [3, 9], [0, 1, -1]), (23, [4, 9], [-1, 1, -1]), (20, [1, 0], [50, 1, 1, 1005, 1002, 0, 6, 4, 2, 1, 0, 0, 1, 3, 1, 2, 4, 3, 2, 1, 5, 0, 2]), (20, [0, 0], [30, 0, 1, 1, 15, -1, 1, 11]), (20, [0], [50, 3, 0, 12, 11, 15, 2, 21, 4, 7, 1, 3, 2, 0, 12, 0, 1, 0, 3, 2, 0, 11, 4, 3, 2, 0, 15, 0, 8, 3, 7, 1, 3, 2, 0, 12, 0, 0, 0, 7, 4, 3, 2, 0, 15, 0, 1, 2, 0, 11]), (20, [9, 0], [30, 0, 1, 0, 0, -1, 1, 15]), (102, [9], [0, 13011, 13012, 13013, 13014, 13015]), (23, [3, 9], [0, 1, -1]), (23, [4, 9], [-1, 1, -1]), (8, [7], [3]), (8, [2], [2]), (8, [7], [3]), (8, [2], [2]), (8, [7], [3])], [], [], [(20, [3, 0], [30, 0, 1, 0, 0, -1, 1, 11]), (20, [0, 3], [50, 3, 0, 8, 12, 11, 3, 7, 0, 2, 0, 1, 2, 0, 8, 3, 7, 1, 3, 2, 0, 12, 0, 0, 0, 6, 4, 2, 1, 1, 0, 1, 2, 0, 11]), (20, [0, 4], [50, 2, 0, 8, 11, 3, 7, 0, 2, 0, 1, 2, 0, 8, 0, 6, 4, 2, 1, 1, 0, 1, 2, 0, 11]), (20, [0, 7], [31, 1, -1, -1, 1, 8, 0, -1, 0, 0]), (20, [0, 2], [50, 2, 1, 8, 5, 2, 3, 7, 0, 2, 0, 1, 2, 0, 8, 3, 6, 0, 2, 1, 1, 0, -1, 0, 10, 3, 0, 2, 4, 3, 2, 0, 5, 0, 1, 0, 47])], [], [])
theorem oo_Mo_met_19 {kA : Nat → ClassId} : or_ok kA GG o_Mo_met_19 := by
  intro A ta ws vs hD hth hl hk hds hf
  have hl : vs.length = 10 := hl
  have hk : ∀ q ∈ ([(0, (2, 0, 0, [150])), (1, (0, 0, 7, [])), (2, (0, -1, -1, [])), (3, (0, 0, 2000, [])), (4, (0, 0, 2000, [])), (7, (0, 0, 23, [])), (9, (0, 0, 2000, []))] : List (Nat × tv_T)), tv_ok ta q.2 (n_v vs q.1) := hk
  obtain ⟨t0, hk⟩ := List.forall_mem_cons.mp hk
  have t0 : tv_ok ta (2, 0, 0, [150]) (n_v vs 0) := t0
  have r0 : ta (v_ad (n_v vs 0)) = some 150 := tv_rg t0
  obtain ⟨t1, hk⟩ := List.forall_mem_cons.mp hk
  have t1 : tv_ok ta (0, 0, 7, []) (n_v vs 1) := t1
  have k1 : 0 ≤ v_iv (n_v vs 1) ∧ v_iv (n_v vs 1) ≤ 7 := tv_rng t1
  obtain ⟨t2, hk⟩ := List.forall_mem_cons.mp hk
  have t2 : tv_ok ta (0, -1, -1, []) (n_v vs 2) := t2
  have k2 : (-1) ≤ v_iv (n_v vs 2) ∧ v_iv (n_v vs 2) ≤ (-1) := tv_rng t2
  obtain ⟨t3, hk⟩ := List.forall_mem_cons.mp hk
  have t3 : tv_ok ta (0, 0, 2000, []) (n_v vs 3) := t3
  have k3 : 0 ≤ v_iv (n_v vs 3) ∧ v_iv (n_v vs 3) ≤ 2000 := tv_rng t3
  obtain ⟨t4, hk⟩ := List.forall_mem_cons.mp hk
  have t4 : tv_ok ta (0, 0, 2000, []) (n_v vs 4) := t4
  have k4 : 0 ≤ v_iv (n_v vs 4) ∧ v_iv (n_v vs 4) ≤ 2000 := tv_rng t4
  obtain ⟨t7, hk⟩ := List.forall_mem_cons.mp hk
  have t7 : tv_ok ta (0, 0, 23, []) (n_v vs 7) := t7
  have k7 : 0 ≤ v_iv (n_v vs 7) ∧ v_iv (n_v vs 7) ≤ 23 := tv_rng t7
  obtain ⟨t9, hk⟩ := List.forall_mem_cons.mp hk
  have t9 : tv_ok ta (0, 0, 2000, []) (n_v vs 9) := t9
  have k9 : 0 ≤ v_iv (n_v vs 9) ∧ v_iv (n_v vs 9) ≤ 2000 := tv_rng t9
  have hf : fc_ok [(20, [2, 0], [50, 1, 1, 1005, 1002, 3, 6, 0, 2, 1, 0, 0, -1, 0, 10, 3, 1, 2, 4, 3, 2, 1, 5, 0, 1, 0, 47]), (23, [3, 9], [0, 1, -1]), (23, [4, 9], [-1, 1, -1]), (20, [1, 0], [50, 1, 1, 1005, 1002, 0, 6, 4, 2, 1, 0, 0, 1, 3, 1, 2, 4, 3, 2, 1, 5, 0, 2]), (20, [0, 0], [30, 0, 1, 1, 15, -1, 1, 11]), (20, [0], [50, 3, 0, 12, 11, 15, 2, 21, 4, 7, 1, 3, 2, 0, 12, 0, 1, 0, 3, 2, 0, 11, 4, 3, 2, 0, 15, 0, 8, 3, 7, 1, 3, 2, 0, 12, 0, 0, 0, 7, 4, 3, 2, 0, 15, 0, 1, 2, 0, 11]), (20, [9, 0], [30, 0, 1, 0, 0, -1, 1, 15]), (102, [9], [0, 13011, 13012, 13013, 13014, 13015]), (23, [3, 9], [0, 1, -1]), (23, [4, 9], [-1, 1, -1]), (8, [7], [3]), (8, [2], [2]), (8, [7], [3]), (8, [2], [2]), (8, [7], [3])] ta ws vs := hf
  obtain ⟨f0, hf⟩ := fc_un (show (20 : Nat) < 100 from by decide) hf
  have f0 : (v_iv (n_v vs 2) ≤ (-1)) ∨ (w_ei ws (w_ar ws (n_v vs 0) 2) ((w_fi ws (n_v vs 0) 5 + 1)) ≤ 47) := f0
  obtain ⟨f1, hf⟩ := fc_un (show (23 : Nat) < 100 from by decide) hf
  have f1 : 1 * v_iv (n_v vs 3) + ((-1) * v_iv (n_v vs 9) + 0) ≤ 0 := f1
  obtain ⟨f2, hf⟩ := fc_un (show (23 : Nat) < 100 from by decide) hf
  have f2 : 1 * v_iv (n_v vs 4) + ((-1) * v_iv (n_v vs 9) + 0) ≤ (-1) := f2
  obtain ⟨f3, hf⟩ := fc_un (show (20 : Nat) < 100 from by decide) hf
  have f3 : (v_iv (n_v vs 1) + 1) ≤ w_ei ws (w_ar ws (n_v vs 0) 2) ((w_fi ws (n_v vs 0) 5 + 2)) := f3
  obtain ⟨f4, hf⟩ := fc_un (show (20 : Nat) < 100 from by decide) hf
  have f4 : 1 * w_fi ws (n_v vs 0) 15 + ((-1) * w_fi ws (n_v vs 0) 11 + 0) ≤ 0 := f4
  obtain ⟨f5, hf⟩ := fc_un (show (20 : Nat) < 100 from by decide) hf
  have f5 : ((w_fi ws (n_v vs 0) 12 = 1) → (w_fi ws (n_v vs 0) 11 ≤ (w_fi ws (n_v vs 0) 15 + 8))) ∧ ((w_fi ws (n_v vs 0) 12 = 0) ∨ ((w_fi ws (n_v vs 0) 15 + 1) ≤ w_fi ws (n_v vs 0) 11)) := f5
  obtain ⟨f6, hf⟩ := fc_un (show (20 : Nat) < 100 from by decide) hf
  have f6 : 1 * v_iv (n_v vs 9) + ((-1) * w_fi ws (n_v vs 0) 15 + 0) ≤ 0 := f6
  obtain ⟨ta1, w1, le1, ⟨_, s1⟩, hf⟩ := fc_us (show ¬ (102 : Nat) < 100 from by decide) hf
  obtain ⟨f8, hf⟩ := fc_un (show (23 : Nat) < 100 from by decide) hf
  have f8 : 1 * v_iv (n_v vs 3) + ((-1) * v_iv (n_v vs 9) + 0) ≤ 0 := f8
  obtain ⟨f9, hf⟩ := fc_un (show (23 : Nat) < 100 from by decide) hf
  have f9 : 1 * v_iv (n_v vs 4) + ((-1) * v_iv (n_v vs 9) + 0) ≤ (-1) := f9
  obtain ⟨f10, hf⟩ := fc_un (show (8 : Nat) < 100 from by decide) hf
  have f10 : 0 ≤ v_iv (n_v vs 7) := f10
  obtain ⟨f11, hf⟩ := fc_un (show (8 : Nat) < 100 from by decide) hf
  have f11 : v_iv (n_v vs 2) < 0 := f11
  obtain ⟨f12, hf⟩ := fc_un (show (8 : Nat) < 100 from by decide) hf
  have f12 : 0 ≤ v_iv (n_v vs 7) := f12
  obtain ⟨f13, hf⟩ := fc_un (show (8 : Nat) < 100 from by decide) hf
  have f13 : v_iv (n_v vs 2) < 0 := f13
  obtain ⟨f14, hf⟩ := fc_un (show (8 : Nat) < 100 from by decide) hf
  have f14 : 0 ≤ v_iv (n_v vs 7) := f14
  have cr_0_2 : ta (w_ar ws (n_v vs 0) 2) = some 152 := tv_rg (th_fd hD hth r0 (g := GG_150) rfl (k := 2) (t := (2, 0, 0, [152])) rfl rfl)
  have kz_0_8 : 0 ≤ w_fi ws (n_v vs 0) 8 ∧ w_fi ws (n_v vs 0) 8 ≤ 5 := tv_rng (th_fd hD hth r0 (g := GG_150) rfl (k := 8) (t := (0, 0, 5, [])) rfl rfl)
  have kz_0_11 : 0 ≤ w_fi ws (n_v vs 0) 11 ∧ w_fi ws (n_v vs 0) 11 ≤ 2000 := tv_rng (th_fd hD hth r0 (g := GG_150) rfl (k := 11) (t := (0, 0, 2000, [])) rfl rfl)
  have kz_0_12 : 0 ≤ w_fi ws (n_v vs 0) 12 ∧ w_fi ws (n_v vs 0) 12 ≤ 4 := tv_rng (th_fd hD hth r0 (g := GG_150) rfl (k := 12) (t := (0, 0, 4, [])) rfl rfl)
  have kz_0_15 : 0 ≤ w_fi ws (n_v vs 0) 15 ∧ w_fi ws (n_v vs 0) 15 ≤ 2000 := tv_rng (th_fd hD hth r0 (g := GG_150) rfl (k := 15) (t := (0, 0, 2000, [])) rfl rfl)
  have nf0 : fc_1 (20, [3, 0], [30, 0, 1, 0, 0, -1, 1, 11]) ws (vs) := by
    refine ⟨fun n hn => ?_, ?_⟩
    · have hn : n ∈ [3, 0] := hn
      rw [hl]
      simp only [List.mem_cons, List.not_mem_nil, or_false] at hn
      show n < 10; omega
    · show 1 * v_iv (n_v vs 3) + ((-1) * w_fi ws (n_v vs 0) 11 + 0) ≤ 0
      omega
  have nf1 : fc_1 (20, [0, 3], [50, 3, 0, 8, 12, 11, 3, 7, 0, 2, 0, 1, 2, 0, 8, 3, 7, 1, 3, 2, 0, 12, 0, 0, 0, 6, 4, 2, 1, 1, 0, 1, 2, 0, 11]) ws (vs) := by
    refine ⟨fun n hn => ?_, ?_⟩
    · have hn : n ∈ [0, 3] := hn
      rw [hl]
      simp only [List.mem_cons, List.not_mem_nil, or_false] at hn
      show n < 10; omega
    · show (1 ≤ w_fi ws (n_v vs 0) 8) ∨ ((w_fi ws (n_v vs 0) 12 = 0) ∨ ((v_iv (n_v vs 3) + 1) ≤ w_fi ws (n_v vs 0) 11))
      first | omega | grind
  have nf2 : fc_1 (20, [0, 4], [50, 2, 0, 8, 11, 3, 7, 0, 2, 0, 1, 2, 0, 8, 0, 6, 4, 2, 1, 1, 0, 1, 2, 0, 11]) ws (vs) := by
    refine ⟨fun n hn => ?_, ?_⟩
    · have hn : n ∈ [0, 4] := hn
      rw [hl]
      simp only [List.mem_cons, List.not_mem_nil, or_false] at hn
      show n < 10; omega
    · show (1 ≤ w_fi ws (n_v vs 0) 8) ∨ ((v_iv (n_v vs 4) + 1) ≤ w_fi ws (n_v vs 0) 11)
      first | omega | grind
  have nf3 : fc_1 (20, [0, 7], [31, 1, -1, -1, 1, 8, 0, -1, 0, 0]) ws (vs) := by
    refine ⟨fun n hn => ?_, ?_⟩
    · have hn : n ∈ [0, 7] := hn
      rw [hl]
      simp only [List.mem_cons, List.not_mem_nil, or_false] at hn
      show n < 10; omega
    · show ((-1) * w_fi ws (n_v vs 0) 8 + 0 ≤ (-1)) ∨ ((-1) * v_iv (n_v vs 7) + 0 ≤ 0)
      omega
  have nf4 : fc_1 (20, [0, 2], [50, 2, 1, 8, 5, 2, 3, 7, 0, 2, 0, 1, 2, 0, 8, 3, 6, 0, 2, 1, 1, 0, -1, 0, 10, 3, 0, 2, 4, 3, 2, 0, 5, 0, 1, 0, 47]) ws (vs) := by
    refine ⟨fun n hn => ?_, ?_⟩
    · have hn : n ∈ [0, 2] := hn
      rw [hl]
      simp only [List.mem_cons, List.not_mem_nil, or_false] at hn
      show n < 10; omega
    · show (1 ≤ w_fi ws (n_v vs 0) 8) ∨ ((v_iv (n_v vs 2) ≤ (-1)) ∨ (w_ei ws (w_ar ws (n_v vs 0) 2) ((w_fi ws (n_v vs 0) 5 + 1)) ≤ 47))
      first | omega | grind
  refine ⟨(fun _ h => (by cases h)), [], trivial, ?_, (fun _ h => (by cases h))⟩
  rw [List.append_nil]
  exact List.forall_mem_cons.mpr ⟨⟨show (20 : Nat) < 100 from by decide, nf0⟩, List.forall_mem_cons.mpr ⟨⟨show (20 : Nat) < 100 from by decide, nf1⟩, List.forall_mem_cons.mpr ⟨⟨show (20 : Nat) < 100 from by decide, nf2⟩, List.forall_mem_cons.mpr ⟨⟨show (20 : Nat) < 100 from by decide, nf3⟩, List.forall_mem_cons.mpr ⟨⟨show (20 : Nat) < 100 from by decide, nf4⟩, (fun _ h => (by cases h))⟩⟩⟩⟩⟩
def o_Mo_met_20 : or_T := (254, 12, [(0, (2, 0, 0, [150])), (1, (0, 0, 7, [])), (2, (0, 0, 23, [])), (3, (0, 0, 2000, [])), (4, (0, 0, 2000, [])), (6, (0, 1, 1, [])), (7, (0, 0, 23, [])), (11, (0, 0, 0, []))], [(8, [7], [3]), (8, [11], [5]), (9, [11, 0], [8]), (20, [0, 0], [30, 0, 1, 1, 15, -1, 1, 11]), (20, [0], [50, 3, 0, 12, 11, 15, 2, 21, 4, 7, 1, 3, 2, 0, 12, 0, 1, 0, 3, 2, 0, 11, 4, 3, 2, 0, 15, 0, 8, 3, 7, 1, 3, 2, 0, 12, 0, 0, 0, 7, 4, 3, 2, 0, 15, 0, 1, 2, 0, 11]), (20, [3, 0], [30, 0, 1, 0, 0, -1, 1, 11]), (20, [0, 4], [50, 2, 0, 12, 11, 3, 7, 1, 3, 2, 0, 12, 0, 0, 0, 6, 4, 2, 1, 1, 0, 1, 2, 0, 11]), (20, [1, 0], [50, 1, 1, 1005, 1002, 0, 6, 4, 2, 1, 0, 0, 1, 3, 1, 2, 4, 3, 2, 1, 5, 0, 2]), (20, [6, 0], [50, 1, 0, 1012, 4, 6, 1, 2, 1, 0, 0, 1, 1, 3, 2, 1, 12, 0, 1]), (20, [0], [30, -1, -1, 1, 8]), (102, [10], [0, 13008, 13009]), (7, [7, 2], [0]), (8, [2], [3]), (8, [7], [3]), (8, [6], [1])], [], [(0, 0, 2000, [])], [(20, [2, 0], [50, 1, 1, 1005, 1002, 3, 6, 0, 2, 1, 0, 0, -1, 0, 10, 3, 1, 2, 4, 3, 2, 1, 5, 0, 1, 0, 47]), (20, [12, 0], [30, 0, 1, 0, 0, -1, 1, 11]), (23, [3, 12], [0, 1, -1]), (23, [4, 12], [-1, 1, -1])], [], [(7, 2, 0, 0)])
theorem oo_Mo_met_20 {kA : Nat → ClassId} : or_ok kA GG o_Mo_met_20 := by
  intro A ta ws vs hD hth hl hk hds hf
  have hl : vs.length = 12 := hl
  have hk : ∀ q ∈ ([(0, (2, 0, 0, [150])), (1, (0, 0, 7, [])), (2, (0, 0, 23, [])), (3, (0, 0, 2000, [])), (4, (0, 0, 2000, [])), (6, (0, 1, 1, [])), (7, (0, 0, 23, [])), (11, (0, 0, 0, []))] : List (Nat × tv_T)), tv_ok ta q.2 (n_v vs q.1) := hk
  obtain ⟨t0, hk⟩ := List.forall_mem_cons.mp hk
  have t0 : tv_ok ta (2, 0, 0, [150]) (n_v vs 0) := t0
  have r0 : ta (v_ad (n_v vs 0)) = some 150 := tv_rg t0
  obtain ⟨t1, hk⟩ := List.forall_mem_cons.mp hk
  have t1 : tv_ok ta (0, 0, 7, []) (n_v vs 1) := t1
  have k1 : 0 ≤ v_iv (n_v vs 1) ∧ v_iv (n_v vs 1) ≤ 7 := tv_rng t1
  obtain ⟨t2, hk⟩ := List.forall_mem_cons.mp hk
  have t2 : tv_ok ta (0, 0, 23, []) (n_v vs 2) := t2
  have k2 : 0 ≤ v_iv (n_v vs 2) ∧ v_iv (n_v vs 2) ≤ 23 := tv_rng t2
  obtain ⟨t3, hk⟩ := List.forall_mem_cons.mp hk
  have t3 : tv_ok ta (0, 0, 2000, []) (n_v vs 3) := t3
  have k3 : 0 ≤ v_iv (n_v vs 3) ∧ v_iv (n_v vs 3) ≤ 2000 := tv_rng t3
  obtain ⟨t4, hk⟩ := List.forall_mem_cons.mp hk
  have t4 : tv_ok ta (0, 0, 2000, []) (n_v vs 4) := t4
  have k4 : 0 ≤ v_iv (n_v vs 4) ∧ v_iv (n_v vs 4) ≤ 2000 := tv_rng t4
  obtain ⟨t6, hk⟩ := List.forall_mem_cons.mp hk
  have t6 : tv_ok ta (0, 1, 1, []) (n_v vs 6) := t6
  have k6 : 1 ≤ v_iv (n_v vs 6) ∧ v_iv (n_v vs 6) ≤ 1 := tv_rng t6
  obtain ⟨t7, hk⟩ := List.forall_mem_cons.mp hk
  have t7 : tv_ok ta (0, 0, 23, []) (n_v vs 7) := t7
  have k7 : 0 ≤ v_iv (n_v vs 7) ∧ v_iv (n_v vs 7) ≤ 23 := tv_rng t7
  obtain ⟨t11, hk⟩ := List.forall_mem_cons.mp hk
  have t11 : tv_ok ta (0, 0, 0, []) (n_v vs 11) := t11
  have k11 : 0 ≤ v_iv (n_v vs 11) ∧ v_iv (n_v vs 11) ≤ 0 := tv_rng t11
  have hds : ∀ q ∈ ([(7, 2, 0, 0)] : List of_T), n_iv vs q.2.1 + q.2.2.1 ≤ n_iv vs q.1 ∧ n_iv vs q.1 ≤ n_iv vs q.2.1 + q.2.2.2 := hds
  obtain ⟨d0, hds⟩ := List.forall_mem_cons.mp hds
  have d0 : v_iv (n_v vs 2) + 0 ≤ v_iv (n_v vs 7) ∧ v_iv (n_v vs 7) ≤ v_iv (n_v vs 2) + 0 := d0
  have hf : fc_ok [(8, [7], [3]), (8, [11], [5]), (9, [11, 0], [8]), (20, [0, 0], [30, 0, 1, 1, 15, -1, 1, 11]), (20, [0], [50, 3, 0, 12, 11, 15, 2, 21, 4, 7, 1, 3, 2, 0, 12, 0, 1, 0, 3, 2, 0, 11, 4, 3, 2, 0, 15, 0, 8, 3, 7, 1, 3, 2, 0, 12, 0, 0, 0, 7, 4, 3, 2, 0, 15, 0, 1, 2, 0, 11]), (20, [3, 0], [30, 0, 1, 0, 0, -1, 1, 11]), (20, [0, 4], [50, 2, 0, 12, 11, 3, 7, 1, 3, 2, 0, 12, 0, 0, 0, 6, 4, 2, 1, 1, 0, 1, 2, 0, 11]), (20, [1, 0], [50, 1, 1, 1005, 1002, 0, 6, 4, 2, 1, 0, 0, 1, 3, 1, 2, 4, 3, 2, 1, 5, 0, 2]), (20, [6, 0], [50, 1, 0, 1012, 4, 6, 1, 2, 1, 0, 0, 1, 1, 3, 2, 1, 12, 0, 1]), (20, [0], [30, -1, -1, 1, 8]), (102, [10], [0, 13008, 13009]), (7, [7, 2], [0]), (8, [2], [3]), (8, [7], [3]), (8, [6], [1])] ta ws vs := hf
  obtain ⟨f0, hf⟩ := fc_un (show (8 : Nat) < 100 from by decide) hf
  have f0 : 0 ≤ v_iv (n_v vs 7) := f0
  obtain ⟨f1, hf⟩ := fc_un (show (8 : Nat) < 100 from by decide) hf
  have f1 : v_iv (n_v vs 11) ≤ 0 := f1
  obtain ⟨f2, hf⟩ := fc_un (show (9 : Nat) < 100 from by decide) hf
  have f2 : n_v vs 11 = w_fd ws (v_ad (n_v vs 0)) 8 := f2
  obtain ⟨f3, hf⟩ := fc_un (show (20 : Nat) < 100 from by decide) hf
  have f3 : 1 * w_fi ws (n_v vs 0) 15 + ((-1) * w_fi ws (n_v vs 0) 11 + 0) ≤ 0 := f3
  obtain ⟨f4, hf⟩ := fc_un (show (20 : Nat) < 100 from by decide) hf
  have f4 : ((w_fi ws (n_v vs 0) 12 = 1) → (w_fi ws (n_v vs 0) 11 ≤ (w_fi ws (n_v vs 0) 15 + 8))) ∧ ((w_fi ws (n_v vs 0) 12 = 0) ∨ ((w_fi ws (n_v vs 0) 15 + 1) ≤ w_fi ws (n_v vs 0) 11)) := f4
  obtain ⟨f5, hf⟩ := fc_un (show (20 : Nat) < 100 from by decide) hf
  have f5 : 1 * v_iv (n_v vs 3) + ((-1) * w_fi ws (n_v vs 0) 11 + 0) ≤ 0 := f5
  obtain ⟨f6, hf⟩ := fc_un (show (20 : Nat) < 100 from by decide) hf
  have f6 : (w_fi ws (n_v vs 0) 12 = 0) ∨ ((v_iv (n_v vs 4) + 1) ≤ w_fi ws (n_v vs 0) 11) := f6
  obtain ⟨f7, hf⟩ := fc_un (show (20 : Nat) < 100 from by decide) hf
  have f7 : (v_iv (n_v vs 1) + 1) ≤ w_ei ws (w_ar ws (n_v vs 0) 2) ((w_fi ws (n_v vs 0) 5 + 2)) := f7
  obtain ⟨f8, hf⟩ := fc_un (show (20 : Nat) < 100 from by decide) hf
  have f8 : (v_iv (n_v vs 6) = 1) → (w_fi ws (n_v vs 0) 12 = 1) := f8
  obtain ⟨f9, hf⟩ := fc_un (show (20 : Nat) < 100 from by decide) hf
  have f9 : (-1) * w_fi ws (n_v vs 0) 8 + 0 ≤ (-1) := f9
  obtain ⟨ta1, w1, le1, ⟨_, s1⟩, hf⟩ := fc_us (show ¬ (102 : Nat) < 100 from by decide) hf
  obtain ⟨f11, hf⟩ := fc_un (show (7 : Nat) < 100 from by decide) hf
  have f11 : v_iv (n_v vs 7) = v_iv (n_v vs 2) := f11
  obtain ⟨f12, hf⟩ := fc_un (show (8 : Nat) < 100 from by decide) hf
  have f12 : 0 ≤ v_iv (n_v vs 2) := f12
  obtain ⟨f13, hf⟩ := fc_un (show (8 : Nat) < 100 from by decide) hf
  have f13 : 0 ≤ v_iv (n_v vs 7) := f13
  obtain ⟨f14, hf⟩ := fc_un (show (8 : Nat) < 100 from by decide) hf
  have f14 : v_iv (n_v vs 6) ≠ 0 := f14
  have cr_0_2 : ta (w_ar ws (n_v vs 0) 2) = some 152 := tv_rg (th_fd hD hth r0 (g := GG_150) rfl (k := 2) (t := (2, 0, 0, [152])) rfl rfl)
  have g2 : v_iv (n_v vs 11) = w_fi ws (n_v vs 0) 8 := congrArg v_iv f2
  have kz_0_8 : 0 ≤ w_fi ws (n_v vs 0) 8 ∧ w_fi ws (n_v vs 0) 8 ≤ 5 := tv_rng (th_fd hD hth r0 (g := GG_150) rfl (k := 8) (t := (0, 0, 5, [])) rfl rfl)
  have kz_0_11 : 0 ≤ w_fi ws (n_v vs 0) 11 ∧ w_fi ws (n_v vs 0) 11 ≤ 2000 := tv_rng (th_fd hD hth r0 (g := GG_150) rfl (k := 11) (t := (0, 0, 2000, [])) rfl rfl)
  have kz_0_12 : 0 ≤ w_fi ws (n_v vs 0) 12 ∧ w_fi ws (n_v vs 0) 12 ≤ 4 := tv_rng (th_fd hD hth r0 (g := GG_150) rfl (k := 12) (t := (0, 0, 4, [])) rfl rfl)
  have kz_0_15 : 0 ≤ w_fi ws (n_v vs 0) 15 ∧ w_fi ws (n_v vs 0) 15 ≤ 2000 := tv_rng (th_fd hD hth r0 (g := GG_150) rfl (k := 15) (t := (0, 0, 2000, [])) rfl rfl)
  have kv0 : 0 ≤ w_fi ws (n_v vs 0) 11 ∧ w_fi ws (n_v vs 0) 11 ≤ 2000 := tv_rng (th_fd hD hth r0 (g := GG_150) rfl (k := 11) (t := (0, 0, 2000, [])) rfl rfl)
  obtain ⟨x, ex, hx⟩ := iv_ex (ta := ta) (lo := 0) (hi := 2000) (z := w_fi ws (n_v vs 0) 11) (by omega) (by omega) (by omega) (by omega)
  have ex2 : v_iv (Value.int x) = w_fi ws (n_v vs 0) 11 := ex
  have ex3 : 0 ≤ v_iv (Value.int x) ∧ v_iv (Value.int x) ≤ 2000 := tv_rng hx
  have e_0 : n_v (vs ++ [Value.int x]) 0 = n_v vs 0 := n_v_old (by rw [hl]; decide)
  have e_2 : n_v (vs ++ [Value.int x]) 2 = n_v vs 2 := n_v_old (by rw [hl]; decide)
  have e_3 : n_v (vs ++ [Value.int x]) 3 = n_v vs 3 := n_v_old (by rw [hl]; decide)
  have e_4 : n_v (vs ++ [Value.int x]) 4 = n_v vs 4 := n_v_old (by rw [hl]; decide)
  have e_12 : n_v (vs ++ [Value.int x]) 12 = Value.int x := n_v_new hl
  have nf0 : fc_1 (20, [2, 0], [50, 1, 1, 1005, 1002, 3, 6, 0, 2, 1, 0, 0, -1, 0, 10, 3, 1, 2, 4, 3, 2, 1, 5, 0, 1, 0, 47]) ws (vs ++ [Value.int x]) := by
    refine ⟨fun n hn => ?_, ?_⟩
    · have hn : n ∈ [2, 0] := hn
      rw [List.length_append, hl]
      simp only [List.mem_cons, List.not_mem_nil, or_false] at hn
      show n < 12 + 1; omega
    · show (v_iv (n_v (vs ++ [Value.int x]) 2) ≤ (-1)) ∨ (w_ei ws (w_ar ws (n_v (vs ++ [Value.int x]) 0) 2) ((w_fi ws (n_v (vs ++ [Value.int x]) 0) 5 + 1)) ≤ 47)
      rw [e_0]
      rw [e_2]
      first | omega | grind
  have nf1 : fc_1 (20, [12, 0], [30, 0, 1, 0, 0, -1, 1, 11]) ws (vs ++ [Value.int x]) := by
    refine ⟨fun n hn => ?_, ?_⟩
    · have hn : n ∈ [12, 0] := hn
      rw [List.length_append, hl]
      simp only [List.mem_cons, List.not_mem_nil, or_false] at hn
      show n < 12 + 1; omega
    · show 1 * v_iv (n_v (vs ++ [Value.int x]) 12) + ((-1) * w_fi ws (n_v (vs ++ [Value.int x]) 0) 11 + 0) ≤ 0
      rw [e_0]
      rw [e_12]
      omega
  have nf2 : fc_1 (23, [3, 12], [0, 1, -1]) ws (vs ++ [Value.int x]) := by
    refine ⟨fun n hn => ?_, ?_⟩
    · have hn : n ∈ [3, 12] := hn
      rw [List.length_append, hl]
      simp only [List.mem_cons, List.not_mem_nil, or_false] at hn
      show n < 12 + 1; omega
    · show 1 * v_iv (n_v (vs ++ [Value.int x]) 3) + ((-1) * v_iv (n_v (vs ++ [Value.int x]) 12) + 0) ≤ 0
      rw [e_3]
      rw [e_12]
      omega
  have nf3 : fc_1 (23, [4, 12], [-1, 1, -1]) ws (vs ++ [Value.int x]) := by
    refine ⟨fun n hn => ?_, ?_⟩
    · have hn : n ∈ [4, 12] := hn
      rw [List.length_append, hl]
      simp only [List.mem_cons, List.not_mem_nil, or_false] at hn
      show n < 12 + 1; omega
    · show 1 * v_iv (n_v (vs ++ [Value.int x]) 4) + ((-1) * v_iv (n_v (vs ++ [Value.int x]) 12) + 0) ≤ (-1)
      rw [e_4]
      rw [e_12]
      omega
  exact ⟨(fun _ h => (by cases h)), [Value.int x], ag_one hx, List.forall_mem_cons.mpr ⟨⟨show (20 : Nat) < 100 from by decide, nf0⟩, List.forall_mem_cons.mpr ⟨⟨show (20 : Nat) < 100 from by decide, nf1⟩, List.forall_mem_cons.mpr ⟨⟨show (23 : Nat) < 100 from by decide, nf2⟩, List.forall_mem_cons.mpr ⟨⟨show (23 : Nat) < 100 from by decide, nf3⟩, (fun _ h => (by cases h))⟩⟩⟩⟩, (fun _ h => (by cases h))⟩
def o_Mo_met_21 : or_T := (258, 13, [(0, (2, 0, 0, [150])), (1, (0, 0, 7, [])), (2, (0, 0, 23, [])), (3, (0, 0, 2000, [])), (4, (0, 0, 2000, [])), (7, (0, 0, 23, [])), (12, (0, 0, 2000, []))], [(20, [2, 0], [50, 1, 1, 1005, 1002, 3, 6, 0, 2, 1, 0, 0, -1, 0, 10, 3, 1, 2, 4, 3, 2, 1, 5, 0, 1, 0, 47]), (23, [3, 12], [0, 1, -1]), (23, [4, 12], [-1, 1, -1]), (20, [1, 0], [50, 1, 1, 1005, 1002, 0, 6, 4, 2, 1, 0, 0, 1, 3, 1, 2, 4, 3, 2, 1, 5, 0, 2]), (20, [0], [30, -1, -1, 1, 8]), (20, [0, 0], [30, 0, 1, 1, 15, -1, 1, 11]), (20, [0], [50, 3, 0, 12, 11, 15, 2, 21, 4, 7, 1, 3, 2, 0, 12, 0, 1, 0, 3, 2, 0, 11, 4, 3, 2, 0, 15, 0, 8, 3, 7, 1, 3, 2, 0, 12, 0, 0, 0, 7, 4, 3, 2, 0, 15, 0, 1, 2, 0, 11]), (20, [12, 0], [30, 0, 1, 0, 0, -1, 1, 15]), (102, [12], [0, 13011, 13012, 13013, 13014, 13015]), (23, [3, 12], [0, 1, -1]), (23, [4, 12], [-1, 1, -1]), (8, [7], [3]), (102, [10], [0, 13008, 13009]), (7, [7, 2], [0]), (8, [2], [3]), (8, [7], [3])], [], [], [(20, [3, 0], [30, 0, 1, 0, 0, -1, 1, 11]), (20, [0, 3], [50, 3, 0, 8, 12, 11, 3, 7, 0, 2, 0, 1, 2, 0, 8, 3, 7, 1, 3, 2, 0, 12, 0, 0, 0, 6, 4, 2, 1, 1, 0, 1, 2, 0, 11]), (20, [0, 4], [50, 2, 0, 8, 11, 3, 7, 0, 2, 0, 1, 2, 0, 8, 0, 6, 4, 2, 1, 1, 0, 1, 2, 0, 11]), (20, [0, 7], [31, 1, -1, -1, 1, 8, 0, -1, 0, 0]), (20, [0, 2], [50, 2, 1, 8, 5, 2, 3, 7, 0, 2, 0, 1, 2, 0, 8, 3, 6, 0, 2, 1, 1, 0, -1, 0, 10, 3, 0, 2, 4, 3, 2, 0, 5, 0, 1, 0, 47])], [], [(7, 2, 0, 0)])
theorem oo_Mo_met_21 {kA : Nat → ClassId} : or_ok kA GG o_Mo_met_21 := by
  intro A ta ws vs hD hth hl hk hds hf
  have hl : vs.length = 13 := hl
  have hk : ∀ q ∈ ([(0, (2, 0, 0, [150])), (1, (0, 0, 7, [])), (2, (0, 0, 23, [])), (3, (0, 0, 2000, [])), (4, (0, 0, 2000, [])), (7, (0, 0, 23, [])), (12, (0, 0, 2000, []))] : List (Nat × tv_T)), tv_ok ta q.2 (n_v vs q.1) := hk
  obtain ⟨t0, hk⟩ := List.forall_mem_cons.mp hk
  have t0 : tv_ok ta (2, 0, 0, [150]) (n_v vs 0) := t0
  have r0 : ta (v_ad (n_v vs 0)) = some 150 := tv_rg t0
  obtain ⟨t1, hk⟩ := List.forall_mem_cons.mp hk
  have t1 : tv_ok ta (0, 0, 7, []) (n_v vs 1) := t1
  have k1 : 0 ≤ v_iv (n_v vs 1) ∧ v_iv (n_v vs 1) ≤ 7 := tv_rng t1
  obtain ⟨t2, hk⟩ := List.forall_mem_cons.mp hk
  have t2 : tv_ok ta (0, 0, 23, []) (n_v vs 2) := t2
  have k2 : 0 ≤ v_iv (n_v vs 2) ∧ v_iv (n_v vs 2) ≤ 23 := tv_rng t2
  obtain ⟨t3, hk⟩ := List.forall_mem_cons.mp hk
  have t3 : tv_ok ta (0, 0, 2000, []) (n_v vs 3) := t3
  have k3 : 0 ≤ v_iv (n_v vs 3) ∧ v_iv (n_v vs 3) ≤ 2000 := tv_rng t3
  obtain ⟨t4, hk⟩ := List.forall_mem_cons.mp hk
  have t4 : tv_ok ta (0, 0, 2000, []) (n_v vs 4) := t4
  have k4 : 0 ≤ v_iv (n_v vs 4) ∧ v_iv (n_v vs 4) ≤ 2000 := tv_rng t4
  obtain ⟨t7, hk⟩ := List.forall_mem_cons.mp hk
  have t7 : tv_ok ta (0, 0, 23, []) (n_v vs 7) := t7
  have k7 : 0 ≤ v_iv (n_v vs 7) ∧ v_iv (n_v vs 7) ≤ 23 := tv_rng t7
  obtain ⟨t12, hk⟩ := List.forall_mem_cons.mp hk
  have t12 : tv_ok ta (0, 0, 2000, []) (n_v vs 12) := t12
  have k12 : 0 ≤ v_iv (n_v vs 12) ∧ v_iv (n_v vs 12) ≤ 2000 := tv_rng t12
  have hds : ∀ q ∈ ([(7, 2, 0, 0)] : List of_T), n_iv vs q.2.1 + q.2.2.1 ≤ n_iv vs q.1 ∧ n_iv vs q.1 ≤ n_iv vs q.2.1 + q.2.2.2 := hds
  obtain ⟨d0, hds⟩ := List.forall_mem_cons.mp hds
  have d0 : v_iv (n_v vs 2) + 0 ≤ v_iv (n_v vs 7) ∧ v_iv (n_v vs 7) ≤ v_iv (n_v vs 2) + 0 := d0
  have hf : fc_ok [(20, [2, 0], [50, 1, 1, 1005, 1002, 3, 6, 0, 2, 1, 0, 0, -1, 0, 10, 3, 1, 2, 4, 3, 2, 1, 5, 0, 1, 0, 47]), (23, [3, 12], [0, 1, -1]), (23, [4, 12], [-1, 1, -1]), (20, [1, 0], [50, 1, 1, 1005, 1002, 0, 6, 4, 2, 1, 0, 0, 1, 3, 1, 2, 4, 3, 2, 1, 5, 0, 2]), (20, [0], [30, -1, -1, 1, 8]), (20, [0, 0], [30, 0, 1, 1, 15, -1, 1, 11]), (20, [0], [50, 3, 0, 12, 11, 15, 2, 21, 4, 7, 1, 3, 2, 0, 12, 0, 1, 0, 3, 2, 0, 11, 4, 3, 2, 0, 15, 0, 8, 3, 7, 1, 3, 2, 0, 12, 0, 0, 0, 7, 4, 3, 2, 0, 15, 0, 1, 2, 0, 11]), (20, [12, 0], [30, 0, 1, 0, 0, -1, 1, 15]), (102, [12], [0, 13011, 13012, 13013, 13014, 13015]), (23, [3, 12], [0, 1, -1]), (23, [4, 12], [-1, 1, -1]), (8, [7], [3]), (102, [10], [0, 13008, 13009]), (7, [7, 2], [0]), (8, [2], [3]), (8, [7], [3])] ta ws vs := hf
  obtain ⟨f0, hf⟩ := fc_un (show (20 : Nat) < 100 from by decide) hf
  have f0 : (v_iv (n_v vs 2) ≤ (-1)) ∨ (w_ei ws (w_ar ws (n_v vs 0) 2) ((w_fi ws (n_v vs 0) 5 + 1)) ≤ 47) := f0
  obtain ⟨f1, hf⟩ := fc_un (show (23 : Nat) < 100 from by decide) hf
  have f1 : 1 * v_iv (n_v vs 3) + ((-1) * v_iv (n_v vs 12) + 0) ≤ 0 := f1
  obtain ⟨f2, hf⟩ := fc_un (show (23 : Nat) < 100 from by decide) hf
  have f2 : 1 * v_iv (n_v vs 4) + ((-1) * v_iv (n_v vs 12) + 0) ≤ (-1) := f2
  obtain ⟨f3, hf⟩ := fc_un (show (20 : Nat) < 100 from by decide) hf
  have f3 : (v_iv (n_v vs 1) + 1) ≤ w_ei ws (w_ar ws (n_v vs 0) 2) ((w_fi ws (n_v vs 0) 5 + 2)) := f3
  obtain ⟨f4, hf⟩ := fc_un (show (20 : Nat) < 100 from by decide) hf
  have f4 : (-1) * w_fi ws (n_v vs 0) 8 + 0 ≤ (-1) := f4
  obtain ⟨f5, hf⟩ := fc_un (show (20 : Nat) < 100 from by decide) hf
  have f5 : 1 * w_fi ws (n_v vs 0) 15 + ((-1) * w_fi ws (n_v vs 0) 11 + 0) ≤ 0 := f5
  obtain ⟨f6, hf⟩ := fc_un (show (20 : Nat) < 100 from by decide) hf
  have f6 : ((w_fi ws (n_v vs 0) 12 = 1) → (w_fi ws (n_v vs 0) 11 ≤ (w_fi ws (n_v vs 0) 15 + 8))) ∧ ((w_fi ws (n_v vs 0) 12 = 0) ∨ ((w_fi ws (n_v vs 0) 15 + 1) ≤ w_fi ws (n_v vs 0) 11)) := f6
  obtain ⟨f7, hf⟩ := fc_un (show (20 : Nat) < 100 from by decide) hf
  have f7 : 1 * v_iv (n_v vs 12) + ((-1) * w_fi ws (n_v vs 0) 15 + 0) ≤ 0 := f7
  obtain ⟨ta1, w1, le1, ⟨_, s1⟩, hf⟩ := fc_us (show ¬ (102 : Nat) < 100 from by decide) hf
  obtain ⟨f9, hf⟩ := fc_un (show (23 : Nat) < 100 from by decide) hf
  have f9 : 1 * v_iv (n_v vs 3) + ((-1) * v_iv (n_v vs 12) + 0) ≤ 0 := f9
  obtain ⟨f10, hf⟩ := fc_un (show (23 : Nat) < 100 from by decide) hf
  have f10 : 1 * v_iv (n_v vs 4) + ((-1) * v_iv (n_v vs 12) + 0) ≤ (-1) := f10
  obtain ⟨f11, hf⟩ := fc_un (show (8 : Nat) < 100 from by decide) hf
  have f11 : 0 ≤ v_iv (n_v vs 7) := f11
  obtain ⟨ta2, w2, le2, ⟨_, s2⟩, hf⟩ := fc_us (show ¬ (102 : Nat) < 100 from by decide) hf
  obtain ⟨f13, hf⟩ := fc_un (show (7 : Nat) < 100 from by decide) hf
  have f13 : v_iv (n_v vs 7) = v_iv (n_v vs 2) := f13
  obtain ⟨f14, hf⟩ := fc_un (show (8 : Nat) < 100 from by decide) hf
  have f14 : 0 ≤ v_iv (n_v vs 2) := f14
  obtain ⟨f15, hf⟩ := fc_un (show (8 : Nat) < 100 from by decide) hf
  have f15 : 0 ≤ v_iv (n_v vs 7) := f15
  have cr_0_2 : ta (w_ar ws (n_v vs 0) 2) = some 152 := tv_rg (th_fd hD hth r0 (g := GG_150) rfl (k := 2) (t := (2, 0, 0, [152])) rfl rfl)
  have kz_0_8 : 0 ≤ w_fi ws (n_v vs 0) 8 ∧ w_fi ws (n_v vs 0) 8 ≤ 5 := tv_rng (th_fd hD hth r0 (g := GG_150) rfl (k := 8) (t := (0, 0, 5, [])) rfl rfl)
  have kz_0_11 : 0 ≤ w_fi ws (n_v vs 0) 11 ∧ w_fi ws (n_v vs 0) 11 ≤ 2000 := tv_rng (th_fd hD hth r0 (g := GG_150) rfl (k := 11) (t := (0, 0, 2000, [])) rfl rfl)
  have kz_0_12 : 0 ≤ w_fi ws (n_v vs 0) 12 ∧ w_fi ws (n_v vs 0) 12 ≤ 4 := tv_rng (th_fd hD hth r0 (g := GG_150) rfl (k := 12) (t := (0, 0, 4, [])) rfl rfl)
  have kz_0_15 : 0 ≤ w_fi ws (n_v vs 0) 15 ∧ w_fi ws (n_v vs 0) 15 ≤ 2000 := tv_rng (th_fd hD hth r0 (g := GG_150) rfl (k := 15) (t := (0, 0, 2000, [])) rfl rfl)
  have nf0 : fc_1 (20, [3, 0], [30, 0, 1, 0, 0, -1, 1, 11]) ws (vs) := by
    refine ⟨fun n hn => ?_, ?_⟩
    · have hn : n ∈ [3, 0] := hn
      rw [hl]
      simp only [List.mem_cons, List.not_mem_nil, or_false] at hn
      show n < 13; omega
    · show 1 * v_iv (n_v vs 3) + ((-1) * w_fi ws (n_v vs 0) 11 + 0) ≤ 0
      omega
  have nf1 : fc_1 (20, [0, 3], [50, 3, 0, 8, 12, 11, 3, 7, 0, 2, 0, 1, 2, 0, 8, 3, 7, 1, 3, 2, 0, 12, 0, 0, 0, 6, 4, 2, 1, 1, 0, 1, 2, 0, 11]) ws (vs) := by
    refine ⟨fun n hn => ?_, ?_⟩
    · have hn : n ∈ [0, 3] := hn
      rw [hl]
      simp only [List.mem_cons, List.not_mem_nil, or_false] at hn
      show n < 13; omega
    · show (1 ≤ w_fi ws (n_v vs 0) 8) ∨ ((w_fi ws (n_v vs 0) 12 = 0) ∨ ((v_iv (n_v vs 3) + 1) ≤ w_fi ws (n_v vs 0) 11))
      first | omega | grind
  have nf2 : fc_1 (20, [0, 4], [50, 2, 0, 8, 11, 3, 7, 0, 2, 0, 1, 2, 0, 8, 0, 6, 4, 2, 1, 1, 0, 1, 2, 0, 11]) ws (vs) := by
    refine ⟨fun n hn => ?_, ?_⟩
    · have hn : n ∈ [0, 4] := hn
      rw [hl]
      simp only [List.mem_cons, List.not_mem_nil, or_false] at hn
      show n < 13; omega
    · show (1 ≤ w_fi ws (n_v vs 0) 8) ∨ ((v_iv (n_v vs 4) + 1) ≤ w_fi ws (n_v vs 0) 11)
      first | omega | grind
  have nf3 : fc_1 (20, [0, 7], [31, 1, -1, -1, 1, 8, 0, -1, 0, 0]) ws (vs) := by
    refine ⟨fun n hn => ?_, ?_⟩
    · have hn : n ∈ [0, 7] := hn
      rw [hl]
      simp only [List.mem_cons, List.not_mem_nil, or_false] at hn
      show n < 13; omega
    · show ((-1) * w_fi ws (n_v vs 0) 8 + 0 ≤ (-1)) ∨ ((-1) * v_iv (n_v vs 7) + 0 ≤ 0)
      omega
  have nf4 : fc_1 (20, [0, 2], [50, 2, 1, 8, 5, 2, 3, 7, 0, 2, 0, 1, 2, 0, 8, 3, 6, 0, 2, 1, 1, 0, -1, 0, 10, 3, 0, 2, 4, 3, 2, 0, 5, 0, 1, 0, 47]) ws (vs) := by
    refine ⟨fun n hn => ?_, ?_⟩
    · have hn : n ∈ [0, 2] := hn
      rw [hl]
      simp only [List.mem_cons, List.not_mem_nil, or_false] at hn
      show n < 13; omega
    · show (1 ≤ w_fi ws (n_v vs 0) 8) ∨ ((v_iv (n_v vs 2) ≤ (-1)) ∨ (w_ei ws (w_ar ws (n_v vs 0) 2) ((w_fi ws (n_v vs 0) 5 + 1)) ≤ 47))
      first | omega | grind
  refine ⟨(fun _ h => (by cases h)), [], trivial, ?_, (fun _ h => (by cases h))⟩
  rw [List.append_nil]
  exact List.forall_mem_cons.mpr ⟨⟨show (20 : Nat) < 100 from by decide, nf0⟩, List.forall_mem_cons.mpr ⟨⟨show (20 : Nat) < 100 from by decide, nf1⟩, List.forall_mem_cons.mpr ⟨⟨show (20 : Nat) < 100 from by decide, nf2⟩, List.forall_mem_cons.mpr ⟨⟨show (20 : Nat) < 100 from by decide, nf3⟩, List.forall_mem_cons.mpr ⟨⟨show (20 : Nat) < 100 from by decide, nf4⟩, (fun _ h => (by cases h))⟩⟩⟩⟩⟩
def o_Mo_met_22 : or_T := (121, 13, [(0, (2, 0, 0, [150])), (1, (0, 0, 7, [])), (2, (0, 0, 23, [])), (3, (0, 0, 2000, [])), (4, (0, 0, 2000, [])), (6, (0, 1, 1, [])), (7, (0, 0, 23, [])), (11, (0, 1, 5, [])), (12, (0, -1, -1, []))], [(8, [11], [4]), (9, [11, 0], [8]), (20, [0, 0], [30, 0, 1, 1, 15, -1, 1, 11]), (20, [0], [50, 3, 0, 12, 11, 15, 2, 21, 4, 7, 1, 3, 2, 0, 12, 0, 1, 0, 3, 2, 0, 11, 4, 3, 2, 0, 15, 0, 8, 3, 7, 1, 3, 2, 0, 12, 0, 0, 0, 7, 4, 3, 2, 0, 15, 0, 1, 2, 0, 11]), (20, [3, 0], [30, 0, 1, 0, 0, -1, 1, 11]), (20, [0, 4], [50, 2, 0, 12, 11, 3, 7, 1, 3, 2, 0, 12, 0, 0, 0, 6, 4, 2, 1, 1, 0, 1, 2, 0, 11]), (20, [1, 0], [50, 1, 1, 1005, 1002, 0, 6, 4, 2, 1, 0, 0, 1, 3, 1, 2, 4, 3, 2, 1, 5, 0, 2]), (20, [6, 0], [50, 1, 0, 1012, 4, 6, 1, 2, 1, 0, 0, 1, 1, 3, 2, 1, 12, 0, 1]), (20, [0], [30, -1, -1, 1, 8]), (102, [10], [0, 13008, 13009]), (7, [7, 2], [0]), (8, [2], [3]), (8, [7], [3]), (8, [6], [1])], [], [], [(20, [0, 3], [50, 3, 0, 8, 12, 11, 3, 7, 0, 2, 0, 1, 2, 0, 8, 3, 7, 1, 3, 2, 0, 12, 0, 0, 0, 6, 4, 2, 1, 1, 0, 1, 2, 0, 11]), (20, [0, 4], [50, 2, 0, 8, 11, 3, 7, 0, 2, 0, 1, 2, 0, 8, 0, 6, 4, 2, 1, 1, 0, 1, 2, 0, 11]), (20, [0, 12], [31, 1, -1, -1, 1, 8, 0, -1, 0, 0]), (20, [0, 2], [50, 2, 1, 8, 5, 2, 3, 7, 0, 2, 0, 1, 2, 0, 8, 3, 6, 0, 2, 1, 1, 0, -1, 0, 10, 3, 0, 2, 4, 3, 2, 0, 5, 0, 1, 0, 47])], [], [(7, 2, 0, 0)])
theorem oo_Mo_met_22 {kA : Nat → ClassId} : or_ok kA GG o_Mo_met_22 := by
  intro A ta ws vs hD hth hl hk hds hf
  have hl : vs.length = 13 := hl
  have hk : ∀ q ∈ ([(0, (2, 0, 0, [150])), (1, (0, 0, 7, [])), (2, (0, 0, 23, [])), (3, (0, 0, 2000, [])), (4, (0, 0, 2000, [])), (6, (0, 1, 1, [])), (7, (0, 0, 23, [])), (11, (0, 1, 5, [])), (12, (0, -1, -1, []))] : List (Nat × tv_T)), tv_ok ta q.2 (n_v vs q.1) := hk
  obtain ⟨t0, hk⟩ := List.forall_mem_cons.mp hk
  have t0 : tv_ok ta (2, 0, 0, [150]) (n_v vs 0) := t0
  have r0 : ta (v_ad (n_v vs 0)) = some 150 := tv_rg t0
  obtain ⟨t1, hk⟩ := List.forall_mem_cons.mp hk
  have t1 : tv_ok ta (0, 0, 7, []) (n_v vs 1) := t1
  have k1 : 0 ≤ v_iv (n_v vs 1) ∧ v_iv (n_v vs 1) ≤ 7 := tv_rng t1
  obtain ⟨t2, hk⟩ := List.forall_mem_cons.mp hk
  have t2 : tv_ok ta (0, 0, 23, []) (n_v vs 2) := t2
  have k2 : 0 ≤ v_iv (n_v vs 2) ∧ v_iv (n_v vs 2) ≤ 23 := tv_rng t2
  obtain ⟨t3, hk⟩ := List.forall_mem_cons.mp hk
  have t3 : tv_ok ta (0, 0, 2000, []) (n_v vs 3) := t3
  have k3 : 0 ≤ v_iv (n_v vs 3) ∧ v_iv (n_v vs 3) ≤ 2000 := tv_rng t3
  obtain ⟨t4, hk⟩ := List.forall_mem_cons.mp hk
  have t4 : tv_ok ta (0, 0, 2000, []) (n_v vs 4) := t4
  have k4 : 0 ≤ v_iv (n_v vs 4) ∧ v_iv (n_v vs 4) ≤ 2000 := tv_rng t4
  obtain ⟨t6, hk⟩ := List.forall_mem_cons.mp hk
  have t6 : tv_ok ta (0, 1, 1, []) (n_v vs 6) := t6
  have k6 : 1 ≤ v_iv (n_v vs 6) ∧ v_iv (n_v vs 6) ≤ 1 := tv_rng t6
  obtain ⟨t7, hk⟩ := List.forall_mem_cons.mp hk
  have t7 : tv_ok ta (0, 0, 23, []) (n_v vs 7) := t7
  have k7 : 0 ≤ v_iv (n_v vs 7) ∧ v_iv (n_v vs 7) ≤ 23 := tv_rng t7
  obtain ⟨t11, hk⟩ := List.forall_mem_cons.mp hk
  have t11 : tv_ok ta (0, 1, 5, []) (n_v vs 11) := t11
  have k11 : 1 ≤ v_iv (n_v vs 11) ∧ v_iv (n_v vs 11) ≤ 5 := tv_rng t11
  obtain ⟨t12, hk⟩ := List.forall_mem_cons.mp hk
  have t12 : tv_ok ta (0, -1, -1, []) (n_v vs 12) := t12
  have k12 : (-1) ≤ v_iv (n_v vs 12) ∧ v_iv (n_v vs 12) ≤ (-1) := tv_rng t12
  have hds : ∀ q ∈ ([(7, 2, 0, 0)] : List of_T), n_iv vs q.2.1 + q.2.2.1 ≤ n_iv vs q.1 ∧ n_iv vs q.1 ≤ n_iv vs q.2.1 + q.2.2.2 := hds
  obtain ⟨d0, hds⟩ := List.forall_mem_cons.mp hds
  have d0 : v_iv (n_v vs 2) + 0 ≤ v_iv (n_v vs 7) ∧ v_iv (n_v vs 7) ≤ v_iv (n_v vs 2) + 0 := d0
  have hf : fc_ok [(8, [11], [4]), (9, [11, 0], [8]), (20, [0, 0], [30, 0, 1, 1, 15, -1, 1, 11]), (20, [0], [50, 3, 0, 12, 11, 15, 2, 21, 4, 7, 1, 3, 2, 0, 12, 0, 1, 0, 3, 2, 0, 11, 4, 3, 2, 0, 15, 0, 8, 3, 7, 1, 3, 2, 0, 12, 0, 0, 0, 7, 4, 3, 2, 0, 15, 0, 1, 2, 0, 11]), (20, [3, 0], [30, 0, 1, 0, 0, -1, 1, 11]), (20, [0, 4], [50, 2, 0, 12, 11, 3, 7, 1, 3, 2, 0, 12, 0, 0, 0, 6, 4, 2, 1, 1, 0, 1, 2, 0, 11]), (20, [1, 0], [50, 1, 1, 1005, 1002, 0, 6, 4, 2, 1, 0, 0, 1, 3, 1, 2, 4, 3, 2, 1, 5, 0, 2]), (20, [6, 0], [50, 1, 0, 1012, 4, 6, 1, 2, 1, 0, 0, 1, 1, 3, 2, 1, 12, 0, 1]), (20, [0], [30, -1, -1, 1, 8]), (102, [10], [0, 13008, 13009]), (7, [7, 2], [0]), (8, [2], [3]), (8, [7], [3]), (8, [6], [1])] ta ws vs := hf
  obtain ⟨f0, hf⟩ := fc_un (show (8 : Nat) < 100 from by decide) hf
  have f0 : 0 < v_iv (n_v vs 11) := f0
  obtain ⟨f1, hf⟩ := fc_un (show (9 : Nat) < 100 from by decide) hf
  have f1 : n_v vs 11 = w_fd ws (v_ad (n_v vs 0)) 8 := f1
  obtain ⟨f2, hf⟩ := fc_un (show (20 : Nat) < 100 from by decide) hf
  have f2 : 1 * w_fi ws (n_v vs 0) 15 + ((-1) * w_fi ws (n_v vs 0) 11 + 0) ≤ 0 := f2
  obtain ⟨f3, hf⟩ := fc_un (show (20 : Nat) < 100 from by decide) hf
  have f3 : ((w_fi ws (n_v vs 0) 12 = 1) → (w_fi ws (n_v vs 0) 11 ≤ (w_fi ws (n_v vs 0) 15 + 8))) ∧ ((w_fi ws (n_v vs 0) 12 = 0) ∨ ((w_fi ws (n_v vs 0) 15 + 1) ≤ w_fi ws (n_v vs 0) 11)) := f3
  obtain ⟨f4, hf⟩ := fc_un (show (20 : Nat) < 100 from by decide) hf
  have f4 : 1 * v_iv (n_v vs 3) + ((-1) * w_fi ws (n_v vs 0) 11 + 0) ≤ 0 := f4
  obtain ⟨f5, hf⟩ := fc_un (show (20 : Nat) < 100 from by decide) hf
  have f5 : (w_fi ws (n_v vs 0) 12 = 0) ∨ ((v_iv (n_v vs 4) + 1) ≤ w_fi ws (n_v vs 0) 11) := f5
  obtain ⟨f6, hf⟩ := fc_un (show (20 : Nat) < 100 from by decide) hf
  have f6 : (v_iv (n_v vs 1) + 1) ≤ w_ei ws (w_ar ws (n_v vs 0) 2) ((w_fi ws (n_v vs 0) 5 + 2)) := f6
  obtain ⟨f7, hf⟩ := fc_un (show (20 : Nat) < 100 from by decide) hf
  have f7 : (v_iv (n_v vs 6) = 1) → (w_fi ws (n_v vs 0) 12 = 1) := f7
  obtain ⟨f8, hf⟩ := fc_un (show (20 : Nat) < 100 from by decide) hf
  have f8 : (-1) * w_fi ws (n_v vs 0) 8 + 0 ≤ (-1) := f8
  obtain ⟨ta1, w1, le1, ⟨_, s1⟩, hf⟩ := fc_us (show ¬ (102 : Nat) < 100 from by decide) hf
  obtain ⟨f10, hf⟩ := fc_un (show (7 : Nat) < 100 from by decide) hf
  have f10 : v_iv (n_v vs 7) = v_iv (n_v vs 2) := f10
  obtain ⟨f11, hf⟩ := fc_un (show (8 : Nat) < 100 from by decide) hf
  have f11 : 0 ≤ v_iv (n_v vs 2) := f11
  obtain ⟨f12, hf⟩ := fc_un (show (8 : Nat) < 100 from by decide) hf
  have f12 : 0 ≤ v_iv (n_v vs 7) := f12
  obtain ⟨f13, hf⟩ := fc_un (show (8 : Nat) < 100 from by decide) hf
  have f13 : v_iv (n_v vs 6) ≠ 0 := f13
  have cr_0_2 : ta (w_ar ws (n_v vs 0) 2) = some 152 := tv_rg (th_fd hD hth r0 (g := GG_150) rfl (k := 2) (t := (2, 0, 0, [152])) rfl rfl)
  have g1 : v_iv (n_v vs 11) = w_fi ws (n_v vs 0) 8 := congrArg v_iv f1
  have kz_0_8 : 0 ≤ w_fi ws (n_v vs 0) 8 ∧ w_fi ws (n_v vs 0) 8 ≤ 5 := tv_rng (th_fd hD hth r0 (g := GG_150) rfl (k := 8) (t := (0, 0, 5, [])) rfl rfl)
  have kz_0_11 : 0 ≤ w_fi ws (n_v vs 0) 11 ∧ w_fi ws (n_v vs 0) 11 ≤ 2000 := tv_rng (th_fd hD hth r0 (g := GG_150) rfl (k := 11) (t := (0, 0, 2000, [])) rfl rfl)
  have kz_0_12 : 0 ≤ w_fi ws (n_v vs 0) 12 ∧ w_fi ws (n_v vs 0) 12 ≤ 4 := tv_rng (th_fd hD hth r0 (g := GG_150) rfl (k := 12) (t := (0, 0, 4, [])) rfl rfl)
  have kz_0_15 : 0 ≤ w_fi ws (n_v vs 0) 15 ∧ w_fi ws (n_v vs 0) 15 ≤ 2000 := tv_rng (th_fd hD hth r0 (g := GG_150) rfl (k := 15) (t := (0, 0, 2000, [])) rfl rfl)
  have nf0 : fc_1 (20, [0, 3], [50, 3, 0, 8, 12, 11, 3, 7, 0, 2, 0, 1, 2, 0, 8, 3, 7, 1, 3, 2, 0, 12, 0, 0, 0, 6, 4, 2, 1, 1, 0, 1, 2, 0, 11]) ws (vs) := by
    refine ⟨fun n hn => ?_, ?_⟩
    · have hn : n ∈ [0, 3] := hn
      rw [hl]
      simp only [List.mem_cons, List.not_mem_nil, or_false] at hn
      show n < 13; omega
    · show (1 ≤ w_fi ws (n_v vs 0) 8) ∨ ((w_fi ws (n_v vs 0) 12 = 0) ∨ ((v_iv (n_v vs 3) + 1) ≤ w_fi ws (n_v vs 0) 11))
      first | omega | grind
  have nf1 : fc_1 (20, [0, 4], [50, 2, 0, 8, 11, 3, 7, 0, 2, 0, 1, 2, 0, 8, 0, 6, 4, 2, 1, 1, 0, 1, 2, 0, 11]) ws (vs) := by
    refine ⟨fun n hn => ?_, ?_⟩
    · have hn : n ∈ [0, 4] := hn
      rw [hl]
      simp only [List.mem_cons, List.not_mem_nil, or_false] at hn
      show n < 13; omega
    · show (1 ≤ w_fi ws (n_v vs 0) 8) ∨ ((v_iv (n_v vs 4) + 1) ≤ w_fi ws (n_v vs 0) 11)
      first | omega | grind
  have nf2 : fc_1 (20, [0, 12], [31, 1, -1, -1, 1, 8, 0, -1, 0, 0]) ws (vs) := by
    refine ⟨fun n hn => ?_, ?_⟩
    · have hn : n ∈ [0, 12] := hn
      rw [hl]
      simp only [List.mem_cons, List.not_mem_nil, or_false] at hn
      show n < 13; omega
    · show ((-1) * w_fi ws (n_v vs 0) 8 + 0 ≤ (-1)) ∨ ((-1) * v_iv (n_v vs 12) + 0 ≤ 0)
      omega
  have nf3 : fc_1 (20, [0, 2], [50, 2, 1, 8, 5, 2, 3, 7, 0, 2, 0, 1, 2, 0, 8, 3, 6, 0, 2, 1, 1, 0, -1, 0, 10, 3, 0, 2, 4, 3, 2, 0, 5, 0, 1, 0, 47]) ws (vs) := by
    refine ⟨fun n hn => ?_, ?_⟩
    · have hn : n ∈ [0, 2] := hn
      rw [hl]
      simp only [List.mem_cons, List.not_mem_nil, or_false] at hn
      show n < 13; omega
    · show (1 ≤ w_fi ws (n_v vs 0) 8) ∨ ((v_iv (n_v vs 2) ≤ (-1)) ∨ (w_ei ws (w_ar ws (n_v vs 0) 2) ((w_fi ws (n_v vs 0) 5 + 1)) ≤ 47))
      first | omega | grind
  refine ⟨(fun _ h => (by cases h)), [], trivial, ?_, (fun _ h => (by cases h))⟩
  rw [List.append_nil]
  exact List.forall_mem_cons.mpr ⟨⟨show (20 : Nat) < 100 from by decide, nf0⟩, List.forall_mem_cons.mpr ⟨⟨show (20 : Nat) < 100 from by decide, nf1⟩, List.forall_mem_cons.mpr ⟨⟨show (20 : Nat) < 100 from by decide, nf2⟩, List.forall_mem_cons.mpr ⟨⟨show (20 : Nat) < 100 from by decide, nf3⟩, (fun _ h => (by cases h))⟩⟩⟩⟩
def o_Mo_met_23 : or_T := (254, 12, [(0, (2, 0, 0, [150])), (1, (0, 0, 7, [])), (2, (0, 0, 23, [])), (3, (0, 0, 2000, [])), (4, (0, 0, 2000, [])), (6, (0, 1, 1, [])), (7, (0, 0, 23, [])), (10, (0, 0, 47, [])), (11, (0, 48, 48, []))], [(8, [7], [3]), (7, [10, 11], [1]), (20, [10, 0], [30, 0, 1, 0, 0, -1, 3, 2005001]), (20, [10, 0], [30, 0, -1, 0, 0, 1, 3, 2005001]), (8, [2], [3]), (8, [7], [3]), (7, [7, 2], [1]), (8, [2], [3]), (8, [7], [3]), (8, [6], [1]), (20, [0, 0], [30, 0, 1, 1, 15, -1, 1, 11]), (20, [0], [50, 3, 0, 12, 11, 15, 2, 21, 4, 7, 1, 3, 2, 0, 12, 0, 1, 0, 3, 2, 0, 11, 4, 3, 2, 0, 15, 0, 8, 3, 7, 1, 3, 2, 0, 12, 0, 0, 0, 7, 4, 3, 2, 0, 15, 0, 1, 2, 0, 11]), (20, [3, 0], [30, 0, 1, 0, 0, -1, 1, 11]), (20, [0, 4], [50, 2, 0, 12, 11, 3, 7, 1, 3, 2, 0, 12, 0, 0, 0, 6, 4, 2, 1, 1, 0, 1, 2, 0, 11]), (20, [1, 0], [50, 1, 1, 1005, 1002, 0, 6, 4, 2, 1, 0, 0, 1, 3, 1, 2, 4, 3, 2, 1, 5, 0, 2]), (20, [6, 0], [50, 1, 0, 1012, 4, 6, 1, 2, 1, 0, 0, 1, 1, 3, 2, 1, 12, 0, 1])], [], [(0, 0, 2000, [])], [(20, [2, 0], [50, 1, 1, 1005, 1002, 3, 6, 0, 2, 1, 0, 0, -1, 0, 10, 3, 1, 2, 4, 3, 2, 1, 5, 0, 1, 0, 47]), (20, [12, 0], [30, 0, 1, 0, 0, -1, 1, 11]), (23, [3, 12], [0, 1, -1]), (23, [4, 12], [-1, 1, -1])], [], [])
theorem oo_Mo_met_23 {kA : Nat → ClassId} : or_ok kA GG o_Mo_met_23 := by
  intro A ta ws vs hD hth hl hk hds hf
  have hl : vs.length = 12 := hl
  have hk : ∀ q ∈ ([(0, (2, 0, 0, [150])), (1, (0, 0, 7, [])), (2, (0, 0, 23, [])), (3, (0, 0, 2000, [])), (4, (0, 0, 2000, [])), (6, (0, 1, 1, [])), (7, (0, 0, 23, [])), (10, (0, 0, 47, [])), (11, (0, 48, 48, []))] : List (Nat × tv_T)), tv_ok ta q.2 (n_v vs q.1) := hk
  obtain ⟨t0, hk⟩ := List.forall_mem_cons.mp hk
  have t0 : tv_ok ta (2, 0, 0, [150]) (n_v vs 0) := t0
  have r0 : ta (v_ad (n_v vs 0)) = some 150 := tv_rg t0
  obtain ⟨t1, hk⟩ := List.forall_mem_cons.mp hk
  have t1 : tv_ok ta (0, 0, 7, []) (n_v vs 1) := t1
  have k1 : 0 ≤ v_iv (n_v vs 1) ∧ v_iv (n_v vs 1) ≤ 7 := tv_rng t1
  obtain ⟨t2, hk⟩ := List.forall_mem_cons.mp hk
  have t2 : tv_ok ta (0, 0, 23, []) (n_v vs 2) := t2
  have k2 : 0 ≤ v_iv (n_v vs 2) ∧ v_iv (n_v vs 2) ≤ 23 := tv_rng t2
  obtain ⟨t3, hk⟩ := List.forall_mem_cons.mp hk
  have t3 : tv_ok ta (0, 0, 2000, []) (n_v vs 3) := t3
  have k3 : 0 ≤ v_iv (n_v vs 3) ∧ v_iv (n_v vs 3) ≤ 2000 := tv_rng t3
  obtain ⟨t4, hk⟩ := List.forall_mem_cons.mp hk
  have t4 : tv_ok ta (0, 0, 2000, []) (n_v vs 4) := t4
  have k4 : 0 ≤ v_iv (n_v vs 4) ∧ v_iv (n_v vs 4) ≤ 2000 := tv_rng t4
  obtain ⟨t6, hk⟩ := List.forall_mem_cons.mp hk
  have t6 : tv_ok ta (0, 1, 1, []) (n_v vs 6) := t6
  have k6 : 1 ≤ v_iv (n_v vs 6) ∧ v_iv (n_v vs 6) ≤ 1 := tv_rng t6
  obtain ⟨t7, hk⟩ := List.forall_mem_cons.mp hk
  have t7 : tv_ok ta (0, 0, 23, []) (n_v vs 7) := t7
  have k7 : 0 ≤ v_iv (n_v vs 7) ∧ v_iv (n_v vs 7) ≤ 23 := tv_rng t7
  obtain ⟨t10, hk⟩ := List.forall_mem_cons.mp hk
  have t10 : tv_ok ta (0, 0, 47, []) (n_v vs 10) := t10
  have k10 : 0 ≤ v_iv (n_v vs 10) ∧ v_iv (n_v vs 10) ≤ 47 := tv_rng t10
  obtain ⟨t11, hk⟩ := List.forall_mem_cons.mp hk
  have t11 : tv_ok ta (0, 48, 48, []) (n_v vs 11) := t11
  have k11 : 48 ≤ v_iv (n_v vs 11) ∧ v_iv (n_v vs 11) ≤ 48 := tv_rng t11
  have hf : fc_ok [(8, [7], [3]), (7, [10, 11], [1]), (20, [10, 0], [30, 0, 1, 0, 0, -1, 3, 2005001]), (20, [10, 0], [30, 0, -1, 0, 0, 1, 3, 2005001]), (8, [2], [3]), (8, [7], [3]), (7, [7, 2], [1]), (8, [2], [3]), (8, [7], [3]), (8, [6], [1]), (20, [0, 0], [30, 0, 1, 1, 15, -1, 1, 11]), (20, [0], [50, 3, 0, 12, 11, 15, 2, 21, 4, 7, 1, 3, 2, 0, 12, 0, 1, 0, 3, 2, 0, 11, 4, 3, 2, 0, 15, 0, 8, 3, 7, 1, 3, 2, 0, 12, 0, 0, 0, 7, 4, 3, 2, 0, 15, 0, 1, 2, 0, 11]), (20, [3, 0], [30, 0, 1, 0, 0, -1, 1, 11]), (20, [0, 4], [50, 2, 0, 12, 11, 3, 7, 1, 3, 2, 0, 12, 0, 0, 0, 6, 4, 2, 1, 1, 0, 1, 2, 0, 11]), (20, [1, 0], [50, 1, 1, 1005, 1002, 0, 6, 4, 2, 1, 0, 0, 1, 3, 1, 2, 4, 3, 2, 1, 5, 0, 2]), (20, [6, 0], [50, 1, 0, 1012, 4, 6, 1, 2, 1, 0, 0, 1, 1, 3, 2, 1, 12, 0, 1])] ta ws vs := hf
  obtain ⟨f0, hf⟩ := fc_un (show (8 : Nat) < 100 from by decide) hf
  have f0 : 0 ≤ v_iv (n_v vs 7) := f0
  obtain ⟨f1, hf⟩ := fc_un (show (7 : Nat) < 100 from by decide) hf
  have f1 : v_iv (n_v vs 10) ≠ v_iv (n_v vs 11) := f1
  obtain ⟨f2, hf⟩ := fc_un (show (20 : Nat) < 100 from by decide) hf
  have f2 : 1 * v_iv (n_v vs 10) + ((-1) * w_el ws (w_ar ws (n_v vs 0) 2) (w_fi ws (n_v vs 0) 5 + 1).toNat + 0) ≤ 0 := f2
  obtain ⟨f3, hf⟩ := fc_un (show (20 : Nat) < 100 from by decide) hf
  have f3 : (-1) * v_iv (n_v vs 10) + (1 * w_el ws (w_ar ws (n_v vs 0) 2) (w_fi ws (n_v vs 0) 5 + 1).toNat + 0) ≤ 0 := f3
  obtain ⟨f4, hf⟩ := fc_un (show (8 : Nat) < 100 from by decide) hf
  have f4 : 0 ≤ v_iv (n_v vs 2) := f4
  obtain ⟨f5, hf⟩ := fc_un (show (8 : Nat) < 100 from by decide) hf
  have f5 : 0 ≤ v_iv (n_v vs 7) := f5
  obtain ⟨f6, hf⟩ := fc_un (show (7 : Nat) < 100 from by decide) hf
  have f6 : v_iv (n_v vs 7) ≠ v_iv (n_v vs 2) := f6
  obtain ⟨f7, hf⟩ := fc_un (show (8 : Nat) < 100 from by decide) hf
  have f7 : 0 ≤ v_iv (n_v vs 2) := f7
  obtain ⟨f8, hf⟩ := fc_un (show (8 : Nat) < 100 from by decide) hf
  have f8 : 0 ≤ v_iv (n_v vs 7) := f8
  obtain ⟨f9, hf⟩ := fc_un (show (8 : Nat) < 100 from by decide) hf
  have f9 : v_iv (n_v vs 6) ≠ 0 := f9
  obtain ⟨f10, hf⟩ := fc_un (show (20 : Nat) < 100 from by decide) hf
  have f10 : 1 * w_fi ws (n_v vs 0) 15 + ((-1) * w_fi ws (n_v vs 0) 11 + 0) ≤ 0 := f10
  obtain ⟨f11, hf⟩ := fc_un (show (20 : Nat) < 100 from by decide) hf
  have f11 : ((w_fi ws (n_v vs 0) 12 = 1) → (w_fi ws (n_v vs 0) 11 ≤ (w_fi ws (n_v vs 0) 15 + 8))) ∧ ((w_fi ws (n_v vs 0) 12 = 0) ∨ ((w_fi ws (n_v vs 0) 15 + 1) ≤ w_fi ws (n_v vs 0) 11)) := f11
  obtain ⟨f12, hf⟩ := fc_un (show (20 : Nat) < 100 from by decide) hf
  have f12 : 1 * v_iv (n_v vs 3) + ((-1) * w_fi ws (n_v vs 0) 11 + 0) ≤ 0 := f12
  obtain ⟨f13, hf⟩ := fc_un (show (20 : Nat) < 100 from by decide) hf
  have f13 : (w_fi ws (n_v vs 0) 12 = 0) ∨ ((v_iv (n_v vs 4) + 1) ≤ w_fi ws (n_v vs 0) 11) := f13
  obtain ⟨f14, hf⟩ := fc_un (show (20 : Nat) < 100 from by decide) hf
  have f14 : (v_iv (n_v vs 1) + 1) ≤ w_ei ws (w_ar ws (n_v vs 0) 2) ((w_fi ws (n_v vs 0) 5 + 2)) := f14
  obtain ⟨f15, hf⟩ := fc_un (show (20 : Nat) < 100 from by decide) hf
  have f15 : (v_iv (n_v vs 6) = 1) → (w_fi ws (n_v vs 0) 12 = 1) := f15
  have cr_0_2 : ta (w_ar ws (n_v vs 0) 2) = some 152 := tv_rg (th_fd hD hth r0 (g := GG_150) rfl (k := 2) (t := (2, 0, 0, [152])) rfl rfl)
  have br_0_2_F5_1_0 : w_ei ws (w_ar ws (n_v vs 0) 2) (w_fi ws (n_v vs 0) 5 + 1) = w_el ws (w_ar ws (n_v vs 0) 2) (w_fi ws (n_v vs 0) 5 + 1).toNat := rfl
  have kz_0_11 : 0 ≤ w_fi ws (n_v vs 0) 11 ∧ w_fi ws (n_v vs 0) 11 ≤ 2000 := tv_rng (th_fd hD hth r0 (g := GG_150) rfl (k := 11) (t := (0, 0, 2000, [])) rfl rfl)
  have kz_0_12 : 0 ≤ w_fi ws (n_v vs 0) 12 ∧ w_fi ws (n_v vs 0) 12 ≤ 4 := tv_rng (th_fd hD hth r0 (g := GG_150) rfl (k := 12) (t := (0, 0, 4, [])) rfl rfl)
  have kz_0_15 : 0 ≤ w_fi ws (n_v vs 0) 15 ∧ w_fi ws (n_v vs 0) 15 ≤ 2000 := tv_rng (th_fd hD hth r0 (g := GG_150) rfl (k := 15) (t := (0, 0, 2000, [])) rfl rfl)
  have kv0 : 0 ≤ w_fi ws (n_v vs 0) 11 ∧ w_fi ws (n_v vs 0) 11 ≤ 2000 := tv_rng (th_fd hD hth r0 (g := GG_150) rfl (k := 11) (t := (0, 0, 2000, [])) rfl rfl)
  obtain ⟨x, ex, hx⟩ := iv_ex (ta := ta) (lo := 0) (hi := 2000) (z := w_fi ws (n_v vs 0) 11) (by omega) (by omega) (by omega) (by omega)
  have ex2 : v_iv (Value.int x) = w_fi ws (n_v vs 0) 11 := ex
  have ex3 : 0 ≤ v_iv (Value.int x) ∧ v_iv (Value.int x) ≤ 2000 := tv_rng hx
  have e_0 : n_v (vs ++ [Value.int x]) 0 = n_v vs 0 := n_v_old (by rw [hl]; decide)
  have e_2 : n_v (vs ++ [Value.int x]) 2 = n_v vs 2 := n_v_old (by rw [hl]; decide)
  have e_3 : n_v (vs ++ [Value.int x]) 3 = n_v vs 3 := n_v_old (by rw [hl]; decide)
  have e_4 : n_v (vs ++ [Value.int x]) 4 = n_v vs 4 := n_v_old (by rw [hl]; decide)
  have e_12 : n_v (vs ++ [Value.int x]) 12 = Value.int x := n_v_new hl
  have nf0 : fc_1 (20, [2, 0], [50, 1, 1, 1005, 1002, 3, 6, 0, 2, 1, 0, 0, -1, 0, 10, 3, 1, 2, 4, 3, 2, 1, 5, 0, 1, 0, 47]) ws (vs ++ [Value.int x]) := by
    refine ⟨fun n hn => ?_, ?_⟩
    · have hn : n ∈ [2, 0] := hn
      rw [List.length_append, hl]
      simp only [List.mem_cons, List.not_mem_nil, or_false] at hn
      show n < 12 + 1; omega
    · show (v_iv (n_v (vs ++ [Value.int x]) 2) ≤ (-1)) ∨ (w_ei ws (w_ar ws (n_v (vs ++ [Value.int x]) 0) 2) ((w_fi ws (n_v (vs ++ [Value.int x]) 0) 5 + 1)) ≤ 47)
      rw [e_0]
      rw [e_2]
      first | omega | grind
  have nf1 : fc_1 (20, [12, 0], [30, 0, 1, 0, 0, -1, 1, 11]) ws (vs ++ [Value.int x]) := by
    refine ⟨fun n hn => ?_, ?_⟩
    · have hn : n ∈ [12, 0] := hn
      rw [List.length_append, hl]
      simp only [List.mem_cons, List.not_mem_nil, or_false] at hn
      show n < 12 + 1; omega
    · show 1 * v_iv (n_v (vs ++ [Value.int x]) 12) + ((-1) * w_fi ws (n_v (vs ++ [Value.int x]) 0) 11 + 0) ≤ 0
      rw [e_0]
      rw [e_12]
      omega
  have nf2 : fc_1 (23, [3, 12], [0, 1, -1]) ws (vs ++ [Value.int x]) := by
    refine ⟨fun n hn => ?_, ?_⟩
    · have hn : n ∈ [3, 12] := hn
      rw [List.length_append, hl]
      simp only [List.mem_cons, List.not_mem_nil, or_false] at hn
      show n < 12 + 1; omega
    · show 1 * v_iv (n_v (vs ++ [Value.int x]) 3) + ((-1) * v_iv (n_v (vs ++ [Value.int x]) 12) + 0) ≤ 0
      rw [e_3]
      rw [e_12]
      omega
  have nf3 : fc_1 (23, [4, 12], [-1, 1, -1]) ws (vs ++ [Value.int x]) := by
    refine ⟨fun n hn => ?_, ?_⟩
    · have hn : n ∈ [4, 12] := hn
      rw [List.length_append, hl]
      simp only [List.mem_cons, List.not_mem_nil, or_false] at hn
      show n < 12 + 1; omega
    · show 1 * v_iv (n_v (vs ++ [Value.int x]) 4) + ((-1) * v_iv (n_v (vs ++ [Value.int x]) 12) + 0) ≤ (-1)
      rw [e_4]
      rw [e_12]
      omega
  exact ⟨(fun _ h => (by cases h)), [Value.int x], ag_one hx, List.forall_mem_cons.mpr ⟨⟨show (20 : Nat) < 100 from by decide, nf0⟩, List.forall_mem_cons.mpr ⟨⟨show (20 : Nat) < 100 from by decide, nf1⟩, List.forall_mem_cons.mpr ⟨⟨show (23 : Nat) < 100 from by decide, nf2⟩, List.forall_mem_cons.mpr ⟨⟨show (23 : Nat) < 100 from by decide, nf3⟩, (fun _ h => (by cases h))⟩⟩⟩⟩, (fun _ h => (by cases h))⟩
def o_Mo_met_24 : or_T := (258, 13, [(0, (2, 0, 0, [150])), (1, (0, 0, 7, [])), (2, (0, 0, 23, [])), (3, (0, 0, 2000, [])), (4, (0, 0, 2000, [])), (7, (0, 0, 23, [])), (10, (0, 0, 47, [])), (11, (0, 48, 48, [])), (12, (0, 0, 2000, []))], [(20, [2, 0], [50, 1, 1, 1005, 1002, 3, 6, 0, 2, 1, 0, 0, -1, 0, 10, 3, 1, 2, 4, 3, 2, 1, 5, 0, 1, 0, 47]), (23, [3, 12], [0, 1, -1]), (23, [4, 12], [-1, 1, -1]), (20, [10, 0], [30, 0, 1, 0, 0, -1, 3, 2005001]), (20, [10, 0], [30, 0, -1, 0, 0, 1, 3, 2005001]), (20, [1, 0], [50, 1, 1, 1005, 1002, 0, 6, 4, 2, 1, 0, 0, 1, 3, 1, 2, 4, 3, 2, 1, 5, 0, 2]), (20, [0, 0], [30, 0, 1, 1, 15, -1, 1, 11]), (20, [0], [50, 3, 0, 12, 11, 15, 2, 21, 4, 7, 1, 3, 2, 0, 12, 0, 1, 0, 3, 2, 0, 11, 4, 3, 2, 0, 15, 0, 8, 3, 7, 1, 3, 2, 0, 12, 0, 0, 0, 7, 4, 3, 2, 0, 15, 0, 1, 2, 0, 11]), (20, [12, 0], [30, 0, 1, 0, 0, -1, 1, 15]), (102, [12], [0, 13011, 13012, 13013, 13014, 13015]), (23, [3, 12], [0, 1, -1]), (23, [4, 12], [-1, 1, -1]), (8, [7], [3]), (7, [10, 11], [1]), (8, [2], [3]), (8, [7], [3]), (7, [7, 2], [1]), (8, [2], [3]), (8, [7], [3])], [], [], [(20, [3, 0], [30, 0, 1, 0, 0, -1, 1, 11]), (20, [0, 3], [50, 3, 0, 8, 12, 11, 3, 7, 0, 2, 0, 1, 2, 0, 8, 3, 7, 1, 3, 2, 0, 12, 0, 0, 0, 6, 4, 2, 1, 1, 0, 1, 2, 0, 11]), (20, [0, 4], [50, 2, 0, 8, 11, 3, 7, 0, 2, 0, 1, 2, 0, 8, 0, 6, 4, 2, 1, 1, 0, 1, 2, 0, 11]), (20, [0, 7], [31, 1, -1, -1, 1, 8, 0, -1, 0, 0]), (20, [0, 2], [50, 2, 1, 8, 5, 2, 3, 7, 0, 2, 0, 1, 2, 0, 8, 3, 6, 0, 2, 1, 1, 0, -1, 0, 10, 3, 0, 2, 4, 3, 2, 0, 5, 0, 1, 0, 47])], [], [])
theorem oo_Mo_met_24 {kA : Nat → ClassId} : or_ok kA GG o_Mo_met_24 := by
  intro A ta ws vs hD hth hl hk hds hf
  have hl : vs.length = 13 := hl
  have hk : ∀ q ∈ ([(0, (2, 0, 0, [150])), (1, (0, 0, 7, [])), (2, (0, 0, 23, [])), (3, (0, 0, 2000, [])), (4, (0, 0, 2000, [])), (7, (0, 0, 23, [])), (10, (0, 0, 47, [])), (11, (0, 48, 48, [])), (12, (0, 0, 2000, []))] : List (Nat × tv_T)), tv_ok ta q.2 (n_v vs q.1) := hk
  obtain ⟨t0, hk⟩ := List.forall_mem_cons.mp hk
  have t0 : tv_ok ta (2, 0, 0, [150]) (n_v vs 0) := t0
  have r0 : ta (v_ad (n_v vs 0)) = some 150 := tv_rg t0
  obtain ⟨t1, hk⟩ := List.forall_mem_cons.mp hk
  have t1 : tv_ok ta (0, 0, 7, []) (n_v vs 1) := t1
  have k1 : 0 ≤ v_iv (n_v vs 1) ∧ v_iv (n_v vs 1) ≤ 7 := tv_rng t1
  obtain ⟨t2, hk⟩ := List.forall_mem_cons.mp hk
  have t2 : tv_ok ta (0, 0, 23, []) (n_v vs 2) := t2
  have k2 : 0 ≤ v_iv (n_v vs 2) ∧ v_iv (n_v vs 2) ≤ 23 := tv_rng t2
  obtain ⟨t3, hk⟩ := List.forall_mem_cons.mp hk
  have t3 : tv_ok ta (0, 0, 2000, []) (n_v vs 3) := t3
  have k3 : 0 ≤ v_iv (n_v vs 3) ∧ v_iv (n_v vs 3) ≤ 2000 := tv_rng t3
  obtain ⟨t4, hk⟩ := List.forall_mem_cons.mp hk
  have t4 : tv_ok ta (0, 0, 2000, []) (n_v vs 4) := t4
  have k4 : 0 ≤ v_iv (n_v vs 4) ∧ v_iv (n_v vs 4) ≤ 2000 := tv_rng t4
  obtain ⟨t7, hk⟩ := List.forall_mem_cons.mp hk
  have t7 : tv_ok ta (0, 0, 23, []) (n_v vs 7) := t7
  have k7 : 0 ≤ v_iv (n_v vs 7) ∧ v_iv (n_v vs 7) ≤ 23 := tv_rng t7
  obtain ⟨t10, hk⟩ := List.forall_mem_cons.mp hk
  have t10 : tv_ok ta (0, 0, 47, []) (n_v vs 10) := t10
  have k10 : 0 ≤ v_iv (n_v vs 10) ∧ v_iv (n_v vs 10) ≤ 47 := tv_rng t10
  obtain ⟨t11, hk⟩ := List.forall_mem_cons.mp hk
  have t11 : tv_ok ta (0, 48, 48, []) (n_v vs 11) := t11
  have k11 : 48 ≤ v_iv (n_v vs 11) ∧ v_iv (n_v vs 11) ≤ 48 := tv_rng t11
  obtain ⟨t12, hk⟩ := List.forall_mem_cons.mp hk
  have t12 : tv_ok ta (0, 0, 2000, []) (n_v vs 12) := t12
  have k12 : 0 ≤ v_iv (n_v vs 12) ∧ v_iv (n_v vs 12) ≤ 2000 := tv_rng t12
  have hf : fc_ok [(20, [2, 0], [50, 1, 1, 1005, 1002, 3, 6, 0, 2, 1, 0, 0, -1, 0, 10, 3, 1, 2, 4, 3, 2, 1, 5, 0, 1, 0, 47]), (23, [3, 12], [0, 1, -1]), (23, [4, 12], [-1, 1, -1]), (20, [10, 0], [30, 0, 1, 0, 0, -1, 3, 2005001]), (20, [10, 0], [30, 0, -1, 0, 0, 1, 3, 2005001]), (20, [1, 0], [50, 1, 1, 1005, 1002, 0, 6, 4, 2, 1, 0, 0, 1, 3, 1, 2, 4, 3, 2, 1, 5, 0, 2]), (20, [0, 0], [30, 0, 1, 1, 15, -1, 1, 11]), (20, [0], [50, 3, 0, 12, 11, 15, 2, 21, 4, 7, 1, 3, 2, 0, 12, 0, 1, 0, 3, 2, 0, 11, 4, 3, 2, 0, 15, 0, 8, 3, 7, 1, 3, 2, 0, 12, 0, 0, 0, 7, 4, 3, 2, 0, 15, 0, 1, 2, 0, 11]), (20, [12, 0], [30, 0, 1, 0, 0, -1, 1, 15]), (102, [12], [0, 13011, 13012, 13013, 13014, 13015]), (23, [3, 12], [0, 1, -1]), (23, [4, 12], [-1, 1, -1]), (8, [7], [3]), (7, [10, 11], [1]), (8, [2], [3]), (8, [7], [3]), (7, [7, 2], [1]), (8, [2], [3]), (8, [7], [3])] ta ws vs := hf
  obtain ⟨f0, hf⟩ := fc_un (show (20 : Nat) < 100 from by decide) hf
  have f0 : (v_iv (n_v vs 2) ≤ (-1)) ∨ (w_ei ws (w_ar ws (n_v vs 0) 2) ((w_fi ws (n_v vs 0) 5 + 1)) ≤ 47) := f0
  obtain ⟨f1, hf⟩ := fc_un (show (23 : Nat) < 100 from by decide) hf
  have f1 : 1 * v_iv (n_v vs 3) + ((-1) * v_iv (n_v vs 12) + 0) ≤ 0 := f1
  obtain ⟨f2, hf⟩ := fc_un (show (23 : Nat) < 100 from by decide) hf
  have f2 : 1 * v_iv (n_v vs 4) + ((-1) * v_iv (n_v vs 12) + 0) ≤ (-1) := f2
  obtain ⟨f3, hf⟩ := fc_un (show (20 : Nat) < 100 from by decide) hf
  have f3 : 1 * v_iv (n_v vs 10) + ((-1) * w_el ws (w_ar ws (n_v vs 0) 2) (w_fi ws (n_v vs 0) 5 + 1).toNat + 0) ≤ 0 := f3
  obtain ⟨f4, hf⟩ := fc_un (show (20 : Nat) < 100 from by decide) hf
  have f4 : (-1) * v_iv (n_v vs 10) + (1 * w_el ws (w_ar ws (n_v vs 0) 2) (w_fi ws (n_v vs 0) 5 + 1).toNat + 0) ≤ 0 := f4
  obtain ⟨f5, hf⟩ := fc_un (show (20 : Nat) < 100 from by decide) hf
  have f5 : (v_iv (n_v vs 1) + 1) ≤ w_ei ws (w_ar ws (n_v vs 0) 2) ((w_fi ws (n_v vs 0) 5 + 2)) := f5
  obtain ⟨f6, hf⟩ := fc_un (show (20 : Nat) < 100 from by decide) hf
  have f6 : 1 * w_fi ws (n_v vs 0) 15 + ((-1) * w_fi ws (n_v vs 0) 11 + 0) ≤ 0 := f6
  obtain ⟨f7, hf⟩ := fc_un (show (20 : Nat) < 100 from by decide) hf
  have f7 : ((w_fi ws (n_v vs 0) 12 = 1) → (w_fi ws (n_v vs 0) 11 ≤ (w_fi ws (n_v vs 0) 15 + 8))) ∧ ((w_fi ws (n_v vs 0) 12 = 0) ∨ ((w_fi ws (n_v vs 0) 15 + 1) ≤ w_fi ws (n_v vs 0) 11)) := f7
  obtain ⟨f8, hf⟩ := fc_un (show (20 : Nat) < 100 from by decide) hf
  have f8 : 1 * v_iv (n_v vs 12) + ((-1) * w_fi ws (n_v vs 0) 15 + 0) ≤ 0 := f8
  obtain ⟨ta1, w1, le1, ⟨_, s1⟩, hf⟩ := fc_us (show ¬ (102 : Nat) < 100 from by decide) hf
  obtain ⟨f10, hf⟩ := fc_un (show (23 : Nat) < 100 from by decide) hf
  have f10 : 1 * v_iv (n_v vs 3) + ((-1) * v_iv (n_v vs 12) + 0) ≤ 0 := f10
  obtain ⟨f11, hf⟩ := fc_un (show (23 : Nat) < 100 from by decide) hf
  have f11 : 1 * v_iv (n_v vs 4) + ((-1) * v_iv (n_v vs 12) + 0) ≤ (-1) := f11
  obtain ⟨f12, hf⟩ := fc_un (show (8 : Nat) < 100 from by decide) hf
  have f12 : 0 ≤ v_iv (n_v vs 7) := f12
  obtain ⟨f13, hf⟩ := fc_un (show (7 : Nat) < 100 from by decide) hf
  have f13 : v_iv (n_v vs 10) ≠ v_iv (n_v vs 11) := f13
  obtain ⟨f14, hf⟩ := fc_un (show (8 : Nat) < 100 from by decide) hf
  have f14 : 0 ≤ v_iv (n_v vs 2) := f14
  obtain ⟨f15, hf⟩ := fc_un (show (8 : Nat) < 100 from by decide) hf
  have f15 : 0 ≤ v_iv (n_v vs 7) := f15
  obtain ⟨f16, hf⟩ := fc_un (show (7 : Nat) < 100 from by decide) hf
  have f16 : v_iv (n_v vs 7) ≠ v_iv (n_v vs 2) := f16
  obtain ⟨f17, hf⟩ := fc_un (show (8 : Nat) < 100 from by decide) hf
  have f17 : 0 ≤ v_iv (n_v vs 2) := f17
  obtain ⟨f18, hf⟩ := fc_un (show (8 : Nat) < 100 from by decide) hf
  have f18 : 0 ≤ v_iv (n_v vs 7) := f18
  have cr_0_2 : ta (w_ar ws (n_v vs 0) 2) = some 152 := tv_rg (th_fd hD hth r0 (g := GG_150) rfl (k := 2) (t := (2, 0, 0, [152])) rfl rfl)
  have br_0_2_F5_1_0 : w_ei ws (w_ar ws (n_v vs 0) 2) (w_fi ws (n_v vs 0) 5 + 1) = w_el ws (w_ar ws (n_v vs 0) 2) (w_fi ws (n_v vs 0) 5 + 1).toNat := rfl
  have kz_0_8 : 0 ≤ w_fi ws (n_v vs 0) 8 ∧ w_fi ws (n_v vs 0) 8 ≤ 5 := tv_rng (th_fd hD hth r0 (g := GG_150) rfl (k := 8) (t := (0, 0, 5, [])) rfl rfl)
  have kz_0_11 : 0 ≤ w_fi ws (n_v vs 0) 11 ∧ w_fi ws (n_v vs 0) 11 ≤ 2000 := tv_rng (th_fd hD hth r0 (g := GG_150) rfl (k := 11) (t := (0, 0, 2000, [])) rfl rfl)
  have kz_0_12 : 0 ≤ w_fi ws (n_v vs 0) 12 ∧ w_fi ws (n_v vs 0) 12 ≤ 4 := tv_rng (th_fd hD hth r0 (g := GG_150) rfl (k := 12) (t := (0, 0, 4, [])) rfl rfl)
  have kz_0_15 : 0 ≤ w_fi ws (n_v vs 0) 15 ∧ w_fi ws (n_v vs 0) 15 ≤ 2000 := tv_rng (th_fd hD hth r0 (g := GG_150) rfl (k := 15) (t := (0, 0, 2000, [])) rfl rfl)
  have nf0 : fc_1 (20, [3, 0], [30, 0, 1, 0, 0, -1, 1, 11]) ws (vs) := by
    refine ⟨fun n hn => ?_, ?_⟩
    · have hn : n ∈ [3, 0] := hn
      rw [hl]
      simp only [List.mem_cons, List.not_mem_nil, or_false] at hn
      show n < 13; omega
    · show 1 * v_iv (n_v vs 3) + ((-1) * w_fi ws (n_v vs 0) 11 + 0) ≤ 0
      omega
  have nf1 : fc_1 (20, [0, 3], [50, 3, 0, 8, 12, 11, 3, 7, 0, 2, 0, 1, 2, 0, 8, 3, 7, 1, 3, 2, 0, 12, 0, 0, 0, 6, 4, 2, 1, 1, 0, 1, 2, 0, 11]) ws (vs) := by
    refine ⟨fun n hn => ?_, ?_⟩
    · have hn : n ∈ [0, 3] := hn
      rw [hl]
      simp only [List.mem_cons, List.not_mem_nil, or_false] at hn
      show n < 13; omega
    · show (1 ≤ w_fi ws (n_v vs 0) 8) ∨ ((w_fi ws (n_v vs 0) 12 = 0) ∨ ((v_iv (n_v vs 3) + 1) ≤ w_fi ws (n_v vs 0) 11))
      first | omega | grind
  have nf2 : fc_1 (20, [0, 4], [50, 2, 0, 8, 11, 3, 7, 0, 2, 0, 1, 2, 0, 8, 0, 6, 4, 2, 1, 1, 0, 1, 2, 0, 11]) ws (vs) := by
    refine ⟨fun n hn => ?_, ?_⟩
    · have hn : n ∈ [0, 4] := hn
      rw [hl]
      simp only [List.mem_cons, List.not_mem_nil, or_false] at hn
      show n < 13; omega
    · show (1 ≤ w_fi ws (n_v vs 0) 8) ∨ ((v_iv (n_v vs 4) + 1) ≤ w_fi ws (n_v vs 0) 11)
      first | omega | grind
  have nf3 : fc_1 (20, [0, 7], [31, 1, -1, -1, 1, 8, 0, -1, 0, 0]) ws (vs) := by
    refine ⟨fun n hn => ?_, ?_⟩
    · have hn : n ∈ [0, 7] := hn
      rw [hl]
      simp only [List.mem_cons, List.not_mem_nil, or_false] at hn
      show n < 13; omega
    · show ((-1) * w_fi ws (n_v vs 0) 8 + 0 ≤ (-1)) ∨ ((-1) * v_iv (n_v vs 7) + 0 ≤ 0)
      omega
  have nf4 : fc_1 (20, [0, 2], [50, 2, 1, 8, 5, 2, 3, 7, 0, 2, 0, 1, 2, 0, 8, 3, 6, 0, 2, 1, 1, 0, -1, 0, 10, 3, 0, 2, 4, 3, 2, 0, 5, 0, 1, 0, 47]) ws (vs) := by
    refine ⟨fun n hn => ?_, ?_⟩
    · have hn : n ∈ [0, 2] := hn
      rw [hl]
      simp only [List.mem_cons, List.not_mem_nil, or_false] at hn
      show n < 13; omega
    · show (1 ≤ w_fi ws (n_v vs 0) 8) ∨ ((v_iv (n_v vs 2) ≤ (-1)) ∨ (w_ei ws (w_ar ws (n_v vs 0) 2) ((w_fi ws (n_v vs 0) 5 + 1)) ≤ 47))
      first | omega | grind
  refine ⟨(fun _ h => (by cases h)), [], trivial, ?_, (fun _ h => (by cases h))⟩
  rw [List.append_nil]
  exact List.forall_mem_cons.mpr ⟨⟨show (20 : Nat) < 100 from by decide, nf0⟩, List.forall_mem_cons.mpr ⟨⟨show (20 : Nat) < 100 from by decide, nf1⟩, List.forall_mem_cons.mpr ⟨⟨show (20 : Nat) < 100 from by decide, nf2⟩, List.forall_mem_cons.mpr ⟨⟨show (20 : Nat) < 100 from by decide, nf3⟩, List.forall_mem_cons.mpr ⟨⟨show (20 : Nat) < 100 from by decide, nf4⟩, (fun _ h => (by cases h))⟩⟩⟩⟩⟩
def o_Mo_met_25 : or_T := (254, 15, [(0, (2, 0, 0, [150])), (1, (0, 0, 7, [])), (2, (0, 0, 23, [])), (3, (0, 0, 2000, [])), (4, (0, 0, 2000, [])), (6, (0, 1, 1, [])), (7, (0, 0, 23, [])), (10, (0, 48, 48, [])), (11, (0, 48, 48, [])), (14, (0, 0, 0, []))], [(8, [7], [3]), (8, [14], [5]), (9, [14, 0], [8]), (20, [10, 0], [30, 0, 1, 0, 0, -1, 3, 2005001]), (20, [10, 0], [30, 0, -1, 0, 0, 1, 3, 2005001]), (20, [0, 0], [30, 0, 1, 1, 15, -1, 1, 11]), (20, [0], [50, 3, 0, 12, 11, 15, 2, 21, 4, 7, 1, 3, 2, 0, 12, 0, 1, 0, 3, 2, 0, 11, 4, 3, 2, 0, 15, 0, 8, 3, 7, 1, 3, 2, 0, 12, 0, 0, 0, 7, 4, 3, 2, 0, 15, 0, 1, 2, 0, 11]), (20, [3, 0], [30, 0, 1, 0, 0, -1, 1, 11]), (20, [0, 4], [50, 2, 0, 12, 11, 3, 7, 1, 3, 2, 0, 12, 0, 0, 0, 6, 4, 2, 1, 1, 0, 1, 2, 0, 11]), (20, [1, 0], [50, 1, 1, 1005, 1002, 0, 6, 4, 2, 1, 0, 0, 1, 3, 1, 2, 4, 3, 2, 1, 5, 0, 2]), (20, [6, 0], [50, 1, 0, 1012, 4, 6, 1, 2, 1, 0, 0, 1, 1, 3, 2, 1, 12, 0, 1]), (20, [0], [30, -1, -1, 1, 8]), (102, [13], [0, 13008, 13009]), (7, [10, 11], [0]), (8, [2], [3]), (8, [7], [3]), (7, [7, 2], [1]), (8, [2], [3]), (8, [7], [3]), (8, [6], [1])], [], [(0, 0, 2000, [])], [(20, [2, 0], [50, 1, 1, 1005, 1002, 3, 6, 0, 2, 1, 0, 0, -1, 0, 10, 3, 1, 2, 4, 3, 2, 1, 5, 0, 1, 0, 47]), (20, [15, 0], [30, 0, 1, 0, 0, -1, 1, 11]), (23, [3, 15], [0, 1, -1]), (23, [4, 15], [-1, 1, -1])], [], [])
theorem oo_Mo_met_25 {kA : Nat → ClassId} : or_ok kA GG o_Mo_met_25 := by
  intro A ta ws vs hD hth hl hk hds hf
  have hl : vs.length = 15 := hl
  have hk : ∀ q ∈ ([(0, (2, 0, 0, [150])), (1, (0, 0, 7, [])), (2, (0, 0, 23, [])), (3, (0, 0, 2000, [])), (4, (0, 0, 2000, [])), (6, (0, 1, 1, [])), (7, (0, 0, 23, [])), (10, (0, 48, 48, [])), (11, (0, 48, 48, [])), (14, (0, 0, 0, []))] : List (Nat × tv_T)), tv_ok ta q.2 (n_v vs q.1) := hk
  obtain ⟨t0, hk⟩ := List.forall_mem_cons.mp hk
  have t0 : tv_ok ta (2, 0, 0, [150]) (n_v vs 0) := t0
  have r0 : ta (v_ad (n_v vs 0)) = some 150 := tv_rg t0
  obtain ⟨t1, hk⟩ := List.forall_mem_cons.mp hk
  have t1 : tv_ok ta (0, 0, 7, []) (n_v vs 1) := t1
  have k1 : 0 ≤ v_iv (n_v vs 1) ∧ v_iv (n_v vs 1) ≤ 7 := tv_rng t1
  obtain ⟨t2, hk⟩ := List.forall_mem_cons.mp hk
  have t2 : tv_ok ta (0, 0, 23, []) (n_v vs 2) := t2
  have k2 : 0 ≤ v_iv (n_v vs 2) ∧ v_iv (n_v vs 2) ≤ 23 := tv_rng t2
  obtain ⟨t3, hk⟩ := List.forall_mem_cons.mp hk
  have t3 : tv_ok ta (0, 0, 2000, []) (n_v vs 3) := t3
  have k3 : 0 ≤ v_iv (n_v vs 3) ∧ v_iv (n_v vs 3) ≤ 2000 := tv_rng t3
  obtain ⟨t4, hk⟩ := List.forall_mem_cons.mp hk
  have t4 : tv_ok ta (0, 0, 2000, []) (n_v vs 4) := t4
  have k4 : 0 ≤ v_iv (n_v vs 4) ∧ v_iv (n_v vs 4) ≤ 2000 := tv_rng t4
  obtain ⟨t6, hk⟩ := List.forall_mem_cons.mp hk
  have t6 : tv_ok ta (0, 1, 1, []) (n_v vs 6) := t6
  have k6 : 1 ≤ v_iv (n_v vs 6) ∧ v_iv (n_v vs 6) ≤ 1 := tv_rng t6
  obtain ⟨t7, hk⟩ := List.forall_mem_cons.mp hk
  have t7 : tv_ok ta (0, 0, 23, []) (n_v vs 7) := t7
  have k7 : 0 ≤ v_iv (n_v vs 7) ∧ v_iv (n_v vs 7) ≤ 23 := tv_rng t7
  obtain ⟨t10, hk⟩ := List.forall_mem_cons.mp hk
  have t10 : tv_ok ta (0, 48, 48, []) (n_v vs 10) := t10
  have k10 : 48 ≤ v_iv (n_v vs 10) ∧ v_iv (n_v vs 10) ≤ 48 := tv_rng t10
  obtain ⟨t11, hk⟩ := List.forall_mem_cons.mp hk
  have t11 : tv_ok ta (0, 48, 48, []) (n_v vs 11) := t11
  have k11 : 48 ≤ v_iv (n_v vs 11) ∧ v_iv (n_v vs 11) ≤ 48 := tv_rng t11
  obtain ⟨t14, hk⟩ := List.forall_mem_cons.mp hk
  have t14 : tv_ok ta (0, 0, 0, []) (n_v vs 14) := t14
  have k14 : 0 ≤ v_iv (n_v vs 14) ∧ v_iv (n_v vs 14) ≤ 0 := tv_rng t14
  have hf : fc_ok [(8, [7], [3]), (8, [14], [5]), (9, [14, 0], [8]), (20, [10, 0], [30, 0, 1, 0, 0, -1, 3, 2005001]), (20, [10, 0], [30, 0, -1, 0, 0, 1, 3, 2005001]), (20, [0, 0], [30, 0, 1, 1, 15, -1, 1, 11]), (20, [0], [50, 3, 0, 12, 11, 15, 2, 21, 4, 7, 1, 3, 2, 0, 12, 0, 1, 0, 3, 2, 0, 11, 4, 3, 2, 0, 15, 0, 8, 3, 7, 1, 3, 2, 0, 12, 0, 0, 0, 7, 4, 3, 2, 0, 15, 0, 1, 2, 0, 11]), (20, [3, 0], [30, 0, 1, 0, 0, -1, 1, 11]), (20, [0, 4], [50, 2, 0, 12, 11, 3, 7, 1, 3, 2, 0, 12, 0, 0, 0, 6, 4, 2, 1, 1, 0, 1, 2, 0, 11]), (20, [1, 0], [50, 1, 1, 1005, 1002, 0, 6, 4, 2, 1, 0, 0, 1, 3, 1, 2, 4, 3, 2, 1, 5, 0, 2]), (20, [6, 0], [50, 1, 0, 1012, 4, 6, 1, 2, 1, 0, 0, 1, 1, 3, 2, 1, 12, 0, 1]), (20, [0], [30, -1, -1, 1, 8]), (102, [13], [0, 13008, 13009]), (7, [10, 11], [0]), (8, [2], [3]), (8, [7], [3]), (7, [7, 2], [1]), (8, [2], [3]), (8, [7], [3]), (8, [6], [1])] ta ws vs := hf
  obtain ⟨f0, hf⟩ := fc_un (show (8 : Nat) < 100 from by decide) hf
  have f0 : 0 ≤ v_iv (n_v vs 7) := f0
  obtain ⟨f1, hf⟩ := fc_un (show (8 : Nat) < 100 from by decide) hf
  have f1 : v_iv (n_v vs 14) ≤ 0 := f1
  obtain ⟨f2, hf⟩ := fc_un (show (9 : Nat) < 100 from by decide) hf
  have f2 : n_v vs 14 = w_fd ws (v_ad (n_v vs 0)) 8 := f2
  obtain ⟨f3, hf⟩ := fc_un (show (20 : Nat) < 100 from by decide) hf
  have f3 : 1 * v_iv (n_v vs 10) + ((-1) * w_el ws (w_ar ws (n_v vs 0) 2) (w_fi ws (n_v vs 0) 5 + 1).toNat + 0) ≤ 0 := f3
  obtain ⟨f4, hf⟩ := fc_un (show (20 : Nat) < 100 from by decide) hf
  have f4 : (-1) * v_iv (n_v vs 10) + (1 * w_el ws (w_ar ws (n_v vs 0) 2) (w_fi ws (n_v vs 0) 5 + 1).toNat + 0) ≤ 0 := f4
  obtain ⟨f5, hf⟩ := fc_un (show (20 : Nat) < 100 from by decide) hf
  have f5 : 1 * w_fi ws (n_v vs 0) 15 + ((-1) * w_fi ws (n_v vs 0) 11 + 0) ≤ 0 := f5
  obtain ⟨f6, hf⟩ := fc_un (show (20 : Nat) < 100 from by decide) hf
  have f6 : ((w_fi ws (n_v vs 0) 12 = 1) → (w_fi ws (n_v vs 0) 11 ≤ (w_fi ws (n_v vs 0) 15 + 8))) ∧ ((w_fi ws (n_v vs 0) 12 = 0) ∨ ((w_fi ws (n_v vs 0) 15 + 1) ≤ w_fi ws (n_v vs 0) 11)) := f6
  obtain ⟨f7, hf⟩ := fc_un (show (20 : Nat) < 100 from by decide) hf
  have f7 : 1 * v_iv (n_v vs 3) + ((-1) * w_fi ws (n_v vs 0) 11 + 0) ≤ 0 := f7
  obtain ⟨f8, hf⟩ := fc_un (show (20 : Nat) < 100 from by decide) hf
  have f8 : (w_fi ws (n_v vs 0) 12 = 0) ∨ ((v_iv (n_v vs 4) + 1) ≤ w_fi ws (n_v vs 0) 11) := f8
  obtain ⟨f9, hf⟩ := fc_un (show (20 : Nat) < 100 from by decide) hf
  have f9 : (v_iv (n_v vs 1) + 1) ≤ w_ei ws (w_ar ws (n_v vs 0) 2) ((w_fi ws (n_v vs 0) 5 + 2)) := f9
  obtain ⟨f10, hf⟩ := fc_un (show (20 : Nat) < 100 from by decide) hf
  have f10 : (v_iv (n_v vs 6) = 1) → (w_fi ws (n_v vs 0) 12 = 1) := f10
  obtain ⟨f11, hf⟩ := fc_un (show (20 : Nat) < 100 from by decide) hf
  have f11 : (-1) * w_fi ws (n_v vs 0) 8 + 0 ≤ (-1) := f11
  obtain ⟨ta1, w1, le1, ⟨_, s1⟩, hf⟩ := fc_us (show ¬ (102 : Nat) < 100 from by decide) hf
  obtain ⟨f13, hf⟩ := fc_un (show (7 : Nat) < 100 from by decide) hf
  have f13 : v_iv (n_v vs 10) = v_iv (n_v vs 11) := f13
  obtain ⟨f14, hf⟩ := fc_un (show (8 : Nat) < 100 from by decide) hf
  have f14 : 0 ≤ v_iv (n_v vs 2) := f14
  obtain ⟨f15, hf⟩ := fc_un (show (8 : Nat) < 100 from by decide) hf
  have f15 : 0 ≤ v_iv (n_v vs 7) := f15
  obtain ⟨f16, hf⟩ := fc_un (show (7 : Nat) < 100 from by decide) hf
  have f16 : v_iv (n_v vs 7) ≠ v_iv (n_v vs 2) := f16
  obtain ⟨f17, hf⟩ := fc_un (show (8 : Nat) < 100 from by decide) hf
  have f17 : 0 ≤ v_iv (n_v vs 2) := f17
  obtain ⟨f18, hf⟩ := fc_un (show (8 : Nat) < 100 from by decide) hf
  have f18 : 0 ≤ v_iv (n_v vs 7) := f18
  obtain ⟨f19, hf⟩ := fc_un (show (8 : Nat) < 100 from by decide) hf
  have f19 : v_iv (n_v vs 6) ≠ 0 := f19
  have cr_0_2 : ta (w_ar ws (n_v vs 0) 2) = some 152 := tv_rg (th_fd hD hth r0 (g := GG_150) rfl (k := 2) (t := (2, 0, 0, [152])) rfl rfl)
  have g2 : v_iv (n_v vs 14) = w_fi ws (n_v vs 0) 8 := congrArg v_iv f2
  have br_0_2_F5_1_0 : w_ei ws (w_ar ws (n_v vs 0) 2) (w_fi ws (n_v vs 0) 5 + 1) = w_el ws (w_ar ws (n_v vs 0) 2) (w_fi ws (n_v vs 0) 5 + 1).toNat := rfl
  have kz_0_8 : 0 ≤ w_fi ws (n_v vs 0) 8 ∧ w_fi ws (n_v vs 0) 8 ≤ 5 := tv_rng (th_fd hD hth r0 (g := GG_150) rfl (k := 8) (t := (0, 0, 5, [])) rfl rfl)
  have kz_0_11 : 0 ≤ w_fi ws (n_v vs 0) 11 ∧ w_fi ws (n_v vs 0) 11 ≤ 2000 := tv_rng (th_fd hD hth r0 (g := GG_150) rfl (k := 11) (t := (0, 0, 2000, [])) rfl rfl)
  have kz_0_12 : 0 ≤ w_fi ws (n_v vs 0) 12 ∧ w_fi ws (n_v vs 0) 12 ≤ 4 := tv_rng (th_fd hD hth r0 (g := GG_150) rfl (k := 12) (t := (0, 0, 4, [])) rfl rfl)
  have kz_0_15 : 0 ≤ w_fi ws (n_v vs 0) 15 ∧ w_fi ws (n_v vs 0) 15 ≤ 2000 := tv_rng (th_fd hD hth r0 (g := GG_150) rfl (k := 15) (t := (0, 0, 2000, [])) rfl rfl)
  have kv0 : 0 ≤ w_fi ws (n_v vs 0) 11 ∧ w_fi ws (n_v vs 0) 11 ≤ 2000 := tv_rng (th_fd hD hth r0 (g := GG_150) rfl (k := 11) (t := (0, 0, 2000, [])) rfl rfl)
  obtain ⟨x, ex, hx⟩ := iv_ex (ta := ta) (lo := 0) (hi := 2000) (z := w_fi ws (n_v vs 0) 11) (by omega) (by omega) (by omega) (by omega)
  have ex2 : v_iv (Value.int x) = w_fi ws (n_v vs 0) 11 := ex
  have ex3 : 0 ≤ v_iv (Value.int x) ∧ v_iv (Value.int x) ≤ 2000 := tv_rng hx
  have e_0 : n_v (vs ++ [Value.int x]) 0 = n_v vs 0 := n_v_old (by rw [hl]; decide)
  have e_2 : n_v (vs ++ [Value.int x]) 2 = n_v vs 2 := n_v_old (by rw [hl]; decide)
  have e_3 : n_v (vs ++ [Value.int x]) 3 = n_v vs 3 := n_v_old (by rw [hl]; decide)
  have e_4 : n_v (vs ++ [Value.int x]) 4 = n_v vs 4 := n_v_old (by rw [hl]; decide)
  have e_15 : n_v (vs ++ [Value.int x]) 15 = Value.int x := n_v_new hl
  have nf0 : fc_1 (20, [2, 0], [50, 1, 1, 1005, 1002, 3, 6, 0, 2, 1, 0, 0, -1, 0, 10, 3, 1, 2, 4, 3, 2, 1, 5, 0, 1, 0, 47]) ws (vs ++ [Value.int x]) := by
    refine ⟨fun n hn => ?_, ?_⟩
    · have hn : n ∈ [2, 0] := hn
      rw [List.length_append, hl]
      simp only [List.mem_cons, List.not_mem_nil, or_false] at hn
      show n < 15 + 1; omega
    · show (v_iv (n_v (vs ++ [Value.int x]) 2) ≤ (-1)) ∨ (w_ei ws (w_ar ws (n_v (vs ++ [Value.int x]) 0) 2) ((w_fi ws (n_v (vs ++ [Value.int x]) 0) 5 + 1)) ≤ 47)
      rw [e_0]
      rw [e_2]
      first | omega | grind
  have nf1 : fc_1 (20, [15, 0], [30, 0, 1, 0, 0, -1, 1, 11]) ws (vs ++ [Value.int x]) := by
    refine ⟨fun n hn => ?_, ?_⟩
    · have hn : n ∈ [15, 0] := hn
      rw [List.length_append, hl]
      simp only [List.mem_cons, List.not_mem_nil, or_false] at hn
      show n < 15 + 1; omega
    · show 1 * v_iv (n_v (vs ++ [Value.int x]) 15) + ((-1) * w_fi ws (n_v (vs ++ [Value.int x]) 0) 11 + 0) ≤ 0
      rw [e_0]
      rw [e_15]
      omega
  have nf2 : fc_1 (23, [3, 15], [0, 1, -1]) ws (vs ++ [Value.int x]) := by
    refine ⟨fun n hn => ?_, ?_⟩
    · have hn : n ∈ [3, 15] := hn
      rw [List.length_append, hl]
      simp only [List.mem_cons, List.not_mem_nil, or_false] at hn
      show n < 15 + 1; omega
    · show 1 * v_iv (n_v (vs ++ [Value.int x]) 3) + ((-1) * v_iv (n_v (vs ++ [Value.int x]) 15) + 0) ≤ 0
      rw [e_3]
      rw [e_15]
      omega
  have nf3 : fc_1 (23, [4, 15], [-1, 1, -1]) ws (vs ++ [Value.int x]) := by
    refine ⟨fun n hn => ?_, ?_⟩
    · have hn : n ∈ [4, 15] := hn
      rw [List.length_append, hl]
      simp only [List.mem_cons, List.not_mem_nil, or_false] at hn
      show n < 15 + 1; omega
    · show 1 * v_iv (n_v (vs ++ [Value.int x]) 4) + ((-1) * v_iv (n_v (vs ++ [Value.int x]) 15) + 0) ≤ (-1)
      rw [e_4]
      rw [e_15]
      omega
  exact ⟨(fun _ h => (by cases h)), [Value.int x], ag_one hx, List.forall_mem_cons.mpr ⟨⟨show (20 : Nat) < 100 from by decide, nf0⟩, List.forall_mem_cons.mpr ⟨⟨show (20 : Nat) < 100 from by decide, nf1⟩, List.forall_mem_cons.mpr ⟨⟨show (23 : Nat) < 100 from by decide, nf2⟩, List.forall_mem_cons.mpr ⟨⟨show (23 : Nat) < 100 from by decide, nf3⟩, (fun _ h => (by cases h))⟩⟩⟩⟩, (fun _ h => (by cases h))⟩
def o_Mo_met_26 : or_T := (258, 16, [(0, (2, 0, 0, [150])), (1, (0, 0, 7, [])), (2, (0, 0, 23, [])), (3, (0, 0, 2000, [])), (4, (0, 0, 2000, [])), (7, (0, 0, 23, [])), (10, (0, 48, 48, [])), (11, (0, 48, 48, [])), (15, (0, 0, 2000, []))], [(20, [2, 0], [50, 1, 1, 1005, 1002, 3, 6, 0, 2, 1, 0, 0, -1, 0, 10, 3, 1, 2, 4, 3, 2, 1, 5, 0, 1, 0, 47]), (23, [3, 15], [0, 1, -1]), (23, [4, 15], [-1, 1, -1]), (20, [10, 0], [30, 0, 1, 0, 0, -1, 3, 2005001]), (20, [10, 0], [30, 0, -1, 0, 0, 1, 3, 2005001]), (20, [1, 0], [50, 1, 1, 1005, 1002, 0, 6, 4, 2, 1, 0, 0, 1, 3, 1, 2, 4, 3, 2, 1, 5, 0, 2]), (20, [0], [30, -1, -1, 1, 8]), (20, [0, 0], [30, 0, 1, 1, 15, -1, 1, 11]), (20, [0], [50, 3, 0, 12, 11, 15, 2, 21, 4, 7, 1, 3, 2, 0, 12, 0, 1, 0, 3, 2, 0, 11, 4, 3, 2, 0, 15, 0, 8, 3, 7, 1, 3, 2, 0, 12, 0, 0, 0, 7, 4, 3, 2, 0, 15, 0, 1, 2, 0, 11]), (20, [15, 0], [30, 0, 1, 0, 0, -1, 1, 15]), (102, [15], [0, 13011, 13012, 13013, 13014, 13015]), (23, [3, 15], [0, 1, -1]), (23, [4, 15], [-1, 1, -1]), (8, [7], [3]), (102, [13], [0, 13008, 13009]), (7, [10, 11], [0]), (8, [2], [3]), (8, [7], [3]), (7, [7, 2], [1]), (8, [2], [3]), (8, [7], [3])], [], [], [(20, [3, 0], [30, 0, 1, 0, 0, -1, 1, 11]), (20, [0, 3], [50, 3, 0, 8, 12, 11, 3, 7, 0, 2, 0, 1, 2, 0, 8, 3, 7, 1, 3, 2, 0, 12, 0, 0, 0, 6, 4, 2, 1, 1, 0, 1, 2, 0, 11]), (20, [0, 4], [50, 2, 0, 8, 11, 3, 7, 0, 2, 0, 1, 2, 0, 8, 0, 6, 4, 2, 1, 1, 0, 1, 2, 0, 11]), (20, [0, 7], [31, 1, -1, -1, 1, 8, 0, -1, 0, 0]), (20, [0, 2], [50, 2, 1, 8, 5, 2, 3, 7, 0, 2, 0, 1, 2, 0, 8, 3, 6, 0, 2, 1, 1, 0, -1, 0, 10, 3, 0, 2, 4, 3, 2, 0, 5, 0, 1, 0, 47])], [], [])
theorem oo_Mo_met_26 {kA : Nat → ClassId} : or_ok kA GG o_Mo_met_26 := by
  intro A ta ws vs hD hth hl hk hds hf
  have hl : vs.length = 16 := hl
  have hk : ∀ q ∈ ([(0, (2, 0, 0, [150])), (1, (0, 0, 7, [])), (2, (0, 0, 23, [])), (3, (0, 0, 2000, [])), (4, (0, 0, 2000, [])), (7, (0, 0, 23, [])), (10, (0, 48, 48, [])), (11, (0, 48, 48, [])), (15, (0, 0, 2000, []))] : List (Nat × tv_T)), tv_ok ta q.2 (n_v vs q.1) := hk
  obtain ⟨t0, hk⟩ := List.forall_mem_cons.mp hk
  have t0 : tv_ok ta (2, 0, 0, [150]) (n_v vs 0) := t0
  have r0 : ta (v_ad (n_v vs 0)) = some 150 := tv_rg t0
  obtain ⟨t1, hk⟩ := List.forall_mem_cons.mp hk
  have t1 : tv_ok ta (0, 0, 7, []) (n_v vs 1) := t1
  have k1 : 0 ≤ v_iv (n_v vs 1) ∧ v_iv (n_v vs 1) ≤ 7 := tv_rng t1
  obtain ⟨t2, hk⟩ := List.forall_mem_cons.mp hk
  have t2 : tv_ok ta (0, 0, 23, []) (n_v vs 2) := t2
  have k2 : 0 ≤ v_iv (n_v vs 2) ∧ v_iv (n_v vs 2) ≤ 23 := tv_rng t2
  obtain ⟨t3, hk⟩ := List.forall_mem_cons.mp hk
  have t3 : tv_ok ta (0, 0, 2000, []) (n_v vs 3) := t3
  have k3 : 0 ≤ v_iv (n_v vs 3) ∧ v_iv (n_v vs 3) ≤ 2000 := tv_rng t3
  obtain ⟨t4, hk⟩ := List.forall_mem_cons.mp hk
  have t4 : tv_ok ta (0, 0, 2000, []) (n_v vs 4) := t4
  have k4 : 0 ≤ v_iv (n_v vs 4) ∧ v_iv (n_v vs 4) ≤ 2000 := tv_rng t4
  obtain ⟨t7, hk⟩ := List.forall_mem_cons.mp hk
  have t7 : tv_ok ta (0, 0, 23, []) (n_v vs 7) := t7
  have k7 : 0 ≤ v_iv (n_v vs 7) ∧ v_iv (n_v vs 7) ≤ 23 := tv_rng t7
  obtain ⟨t10, hk⟩ := List.forall_mem_cons.mp hk
  have t10 : tv_ok ta (0, 48, 48, []) (n_v vs 10) := t10
  have k10 : 48 ≤ v_iv (n_v vs 10) ∧ v_iv (n_v vs 10) ≤ 48 := tv_rng t10
  obtain ⟨t11, hk⟩ := List.forall_mem_cons.mp hk
  have t11 : tv_ok ta (0, 48, 48, []) (n_v vs 11) := t11
  have k11 : 48 ≤ v_iv (n_v vs 11) ∧ v_iv (n_v vs 11) ≤ 48 := tv_rng t11
  obtain ⟨t15, hk⟩ := List.forall_mem_cons.mp hk
  have t15 : tv_ok ta (0, 0, 2000, []) (n_v vs 15) := t15
  have k15 : 0 ≤ v_iv (n_v vs 15) ∧ v_iv (n_v vs 15) ≤ 2000 := tv_rng t15
  have hf : fc_ok [(20, [2, 0], [50, 1, 1, 1005, 1002, 3, 6, 0, 2, 1, 0, 0, -1, 0, 10, 3, 1, 2, 4, 3, 2, 1, 5, 0, 1, 0, 47]), (23, [3, 15], [0, 1, -1]), (23, [4, 15], [-1, 1, -1]), (20, [10, 0], [30, 0, 1, 0, 0, -1, 3, 2005001]), (20, [10, 0], [30, 0, -1, 0, 0, 1, 3, 2005001]), (20, [1, 0], [50, 1, 1, 1005, 1002, 0, 6, 4, 2, 1, 0, 0, 1, 3, 1, 2, 4, 3, 2, 1, 5, 0, 2]), (20, [0], [30, -1, -1, 1, 8]), (20, [0, 0], [30, 0, 1, 1, 15, -1, 1, 11]), (20, [0], [50, 3, 0, 12, 11, 15, 2, 21, 4, 7, 1, 3, 2, 0, 12, 0, 1, 0, 3, 2, 0, 11, 4, 3, 2, 0, 15, 0, 8, 3, 7, 1, 3, 2, 0, 12, 0, 0, 0, 7, 4, 3, 2, 0, 15, 0, 1, 2, 0, 11]), (20, [15, 0], [30, 0, 1, 0, 0, -1, 1, 15]), (102, [15], [0, 13011, 13012, 13013, 13014, 13015]), (23, [3, 15], [0, 1, -1]), (23, [4, 15], [-1, 1, -1]), (8, [7], [3]), (102, [13], [0, 13008, 13009]), (7, [10, 11], [0]), (8, [2], [3]), (8, [7], [3]), (7, [7, 2], [1]), (8, [2], [3]), (8, [7], [3])] ta ws vs := hf
  obtain ⟨f0, hf⟩ := fc_un (show (20 : Nat) < 100 from by decide) hf
  have f0 : (v_iv (n_v vs 2) ≤ (-1)) ∨ (w_ei ws (w_ar ws (n_v vs 0) 2) ((w_fi ws (n_v vs 0) 5 + 1)) ≤ 47) := f0
  obtain ⟨f1, hf⟩ := fc_un (show (23 : Nat) < 100 from by decide) hf
  have f1 : 1 * v_iv (n_v vs 3) + ((-1) * v_iv (n_v vs 15) + 0) ≤ 0 := f1
  obtain ⟨f2, hf⟩ := fc_un (show (23 : Nat) < 100 from by decide) hf
  have f2 : 1 * v_iv (n_v vs 4) + ((-1) * v_iv (n_v vs 15) + 0) ≤ (-1) := f2
  obtain ⟨f3, hf⟩ := fc_un (show (20 : Nat) < 100 from by decide) hf
  have f3 : 1 * v_iv (n_v vs 10) + ((-1) * w_el ws (w_ar ws (n_v vs 0) 2) (w_fi ws (n_v vs 0) 5 + 1).toNat + 0) ≤ 0 := f3
  obtain ⟨f4, hf⟩ := fc_un (show (20 : Nat) < 100 from by decide) hf
  have f4 : (-1) * v_iv (n_v vs 10) + (1 * w_el ws (w_ar ws (n_v vs 0) 2) (w_fi ws (n_v vs 0) 5 + 1).toNat + 0) ≤ 0 := f4
  obtain ⟨f5, hf⟩ := fc_un (show (20 : Nat) < 100 from by decide) hf
  have f5 : (v_iv (n_v vs 1) + 1) ≤ w_ei ws (w_ar ws (n_v vs 0) 2) ((w_fi ws (n_v vs 0) 5 + 2)) := f5
  obtain ⟨f6, hf⟩ := fc_un (show (20 : Nat) < 100 from by decide) hf
  have f6 : (-1) * w_fi ws (n_v vs 0) 8 + 0 ≤ (-1) := f6
  obtain ⟨f7, hf⟩ := fc_un (show (20 : Nat) < 100 from by decide) hf
  have f7 : 1 * w_fi ws (n_v vs 0) 15 + ((-1) * w_fi ws (n_v vs 0) 11 + 0) ≤ 0 := f7
  obtain ⟨f8, hf⟩ := fc_un (show (20 : Nat) < 100 from by decide) hf
  have f8 : ((w_fi ws (n_v vs 0) 12 = 1) → (w_fi ws (n_v vs 0) 11 ≤ (w_fi ws (n_v vs 0) 15 + 8))) ∧ ((w_fi ws (n_v vs 0) 12 = 0) ∨ ((w_fi ws (n_v vs 0) 15 + 1) ≤ w_fi ws (n_v vs 0) 11)) := f8
  obtain ⟨f9, hf⟩ := fc_un (show (20 : Nat) < 100 from by decide) hf
  have f9 : 1 * v_iv (n_v vs 15) + ((-1) * w_fi ws (n_v vs 0) 15 + 0) ≤ 0 := f9
  obtain ⟨ta1, w1, le1, ⟨_, s1⟩, hf⟩ := fc_us (show ¬ (102 : Nat) < 100 from by decide) hf
  obtain ⟨f11, hf⟩ := fc_un (show (23 : Nat) < 100 from by decide) hf
  have f11 : 1 * v_iv (n_v vs 3) + ((-1) * v_iv (n_v vs 15) + 0) ≤ 0 := f11
  obtain ⟨f12, hf⟩ := fc_un (show (23 : Nat) < 100 from by decide) hf
  have f12 : 1 * v_iv (n_v vs 4) + ((-1) * v_iv (n_v vs 15) + 0) ≤ (-1) := f12
  obtain ⟨f13, hf⟩ := fc_un (show (8 : Nat) < 100 from by decide) hf
  have f13 : 0 ≤ v_iv (n_v vs 7) := f13
  obtain ⟨ta2, w2, le2, ⟨_, s2⟩, hf⟩ := fc_us (show ¬ (102 : Nat) < 100 from by decide) hf
  obtain ⟨f15, hf⟩ := fc_un (show (7 : Nat) < 100 from by decide) hf
  have f15 : v_iv (n_v vs 10) = v_iv (n_v vs 11) := f15
  obtain ⟨f16, hf⟩ := fc_un (show (8 : Nat) < 100 from by decide) hf
  have f16 : 0 ≤ v_iv (n_v vs 2) := f16
  obtain ⟨f17, hf⟩ := fc_un (show (8 : Nat) < 100 from by decide) hf
  have f17 : 0 ≤ v_iv (n_v vs 7) := f17
  obtain ⟨f18, hf⟩ := fc_un (show (7 : Nat) < 100 from by decide) hf
  have f18 : v_iv (n_v vs 7) ≠ v_iv (n_v vs 2) := f18
  obtain ⟨f19, hf⟩ := fc_un (show (8 : Nat) < 100 from by decide) hf
  have f19 : 0 ≤ v_iv (n_v vs 2) := f19
  obtain ⟨f20, hf⟩ := fc_un (show (8 : Nat) < 100 from by decide) hf
  have f20 : 0 ≤ v_iv (n_v vs 7) := f20
  have cr_0_2 : ta (w_ar ws (n_v vs 0) 2) = some 152 := tv_rg (th_fd hD hth r0 (g := GG_150) rfl (k := 2) (t := (2, 0, 0, [152])) rfl rfl)
  have br_0_2_F5_1_0 : w_ei ws (w_ar ws (n_v vs 0) 2) (w_fi ws (n_v vs 0) 5 + 1) = w_el ws (w_ar ws (n_v vs 0) 2) (w_fi ws (n_v vs 0) 5 + 1).toNat := rfl
  have kz_0_8 : 0 ≤ w_fi ws (n_v vs 0) 8 ∧ w_fi ws (n_v vs 0) 8 ≤ 5 := tv_rng (th_fd hD hth r0 (g := GG_150) rfl (k := 8) (t := (0, 0, 5, [])) rfl rfl)
  have kz_0_11 : 0 ≤ w_fi ws (n_v vs 0) 11 ∧ w_fi ws (n_v vs 0) 11 ≤ 2000 := tv_rng (th_fd hD hth r0 (g := GG_150) rfl (k := 11) (t := (0, 0, 2000, [])) rfl rfl)
  have kz_0_12 : 0 ≤ w_fi ws (n_v vs 0) 12 ∧ w_fi ws (n_v vs 0) 12 ≤ 4 := tv_rng (th_fd hD hth r0 (g := GG_150) rfl (k := 12) (t := (0, 0, 4, [])) rfl rfl)
  have kz_0_15 : 0 ≤ w_fi ws (n_v vs 0) 15 ∧ w_fi ws (n_v vs 0) 15 ≤ 2000 := tv_rng (th_fd hD hth r0 (g := GG_150) rfl (k := 15) (t := (0, 0, 2000, [])) rfl rfl)
  have nf0 : fc_1 (20, [3, 0], [30, 0, 1, 0, 0, -1, 1, 11]) ws (vs) := by
    refine ⟨fun n hn => ?_, ?_⟩
    · have hn : n ∈ [3, 0] := hn
      rw [hl]
      simp only [List.mem_cons, List.not_mem_nil, or_false] at hn
      show n < 16; omega
    · show 1 * v_iv (n_v vs 3) + ((-1) * w_fi ws (n_v vs 0) 11 + 0) ≤ 0
      omega
  have nf1 : fc_1 (20, [0, 3], [50, 3, 0, 8, 12, 11, 3, 7, 0, 2, 0, 1, 2, 0, 8, 3, 7, 1, 3, 2, 0, 12, 0, 0, 0, 6, 4, 2, 1, 1, 0, 1, 2, 0, 11]) ws (vs) := by
    refine ⟨fun n hn => ?_, ?_⟩
    · have hn : n ∈ [0, 3] := hn
      rw [hl]
      simp only [List.mem_cons, List.not_mem_nil, or_false] at hn
      show n < 16; omega
    · show (1 ≤ w_fi ws (n_v vs 0) 8) ∨ ((w_fi ws (n_v vs 0) 12 = 0) ∨ ((v_iv (n_v vs 3) + 1) ≤ w_fi ws (n_v vs 0) 11))
      first | omega | grind
  have nf2 : fc_1 (20, [0, 4], [50, 2, 0, 8, 11, 3, 7, 0, 2, 0, 1, 2, 0, 8, 0, 6, 4, 2, 1, 1, 0, 1, 2, 0, 11]) ws (vs) := by
    refine ⟨fun n hn => ?_, ?_⟩
    · have hn : n ∈ [0, 4] := hn
      rw [hl]
      simp only [List.mem_cons, List.not_mem_nil, or_false] at hn
      show n < 16; omega
    · show (1 ≤ w_fi ws (n_v vs 0) 8) ∨ ((v_iv (n_v vs 4) + 1) ≤ w_fi ws (n_v vs 0) 11)
      first | omega | grind
  have nf3 : fc_1 (20, [0, 7], [31, 1, -1, -1, 1, 8, 0, -1, 0, 0]) ws (vs) := by
    refine ⟨fun n hn => ?_, ?_⟩
    · have hn : n ∈ [0, 7] := hn
      rw [hl]
      simp only [List.mem_cons, List.not_mem_nil, or_false] at hn
      show n < 16; omega
    · show ((-1) * w_fi ws (n_v vs 0) 8 + 0 ≤ (-1)) ∨ ((-1) * v_iv (n_v vs 7) + 0 ≤ 0)
      omega
  have nf4 : fc_1 (20, [0, 2], [50, 2, 1, 8, 5, 2, 3, 7, 0, 2, 0, 1, 2, 0, 8, 3, 6, 0, 2, 1, 1, 0, -1, 0, 10, 3, 0, 2, 4, 3, 2, 0, 5, 0, 1, 0, 47]) ws (vs) := by
    refine ⟨fun n hn => ?_, ?_⟩
    · have hn : n ∈ [0, 2] := hn
      rw [hl]
      simp only [List.mem_cons, List.not_mem_nil, or_false] at hn
      show n < 16; omega
    · show (1 ≤ w_fi ws (n_v vs 0) 8) ∨ ((v_iv (n_v vs 2) ≤ (-1)) ∨ (w_ei ws (w_ar ws (n_v vs 0) 2) ((w_fi ws (n_v vs 0) 5 + 1)) ≤ 47))
      first | omega | grind
  refine ⟨(fun _ h => (by cases h)), [], trivial, ?_, (fun _ h => (by cases h))⟩
  rw [List.append_nil]
  exact List.forall_mem_cons.mpr ⟨⟨show (20 : Nat) < 100 from by decide, nf0⟩, List.forall_mem_cons.mpr ⟨⟨show (20 : Nat) < 100 from by decide, nf1⟩, List.forall_mem_cons.mpr ⟨⟨show (20 : Nat) < 100 from by decide, nf2⟩, List.forall_mem_cons.mpr ⟨⟨show (20 : Nat) < 100 from by decide, nf3⟩, List.forall_mem_cons.mpr ⟨⟨show (20 : Nat) < 100 from by decide, nf4⟩, (fun _ h => (by cases h))⟩⟩⟩⟩⟩
def o_Mo_met_27 : or_T := (121, 16, [(0, (2, 0, 0, [150])), (1, (0, 0, 7, [])), (2, (0, 0, 23, [])), (3, (0, 0, 2000, [])), (4, (0, 0, 2000, [])), (6, (0, 1, 1, [])), (7, (0, 0, 23, [])), (10, (0, 48, 48, [])), (11, (0, 48, 48, [])), (14, (0, 1, 5, [])), (15, (0, -1, -1, []))], [(8, [14], [4]), (9, [14, 0], [8]), (20, [10, 0], [30, 0, 1, 0, 0, -1, 3, 2005001]), (20, [10, 0], [30, 0, -1, 0, 0, 1, 3, 2005001]), (20, [0, 0], [30, 0, 1, 1, 15, -1, 1, 11]), (20, [0], [50, 3, 0, 12, 11, 15, 2, 21, 4, 7, 1, 3, 2, 0, 12, 0, 1, 0, 3, 2, 0, 11, 4, 3, 2, 0, 15, 0, 8, 3, 7, 1, 3, 2, 0, 12, 0, 0, 0, 7, 4, 3, 2, 0, 15, 0, 1, 2, 0, 11]), (20, [3, 0], [30, 0, 1, 0, 0, -1, 1, 11]), (20, [0, 4], [50, 2, 0, 12, 11, 3, 7, 1, 3, 2, 0, 12, 0, 0, 0, 6, 4, 2, 1, 1, 0, 1, 2, 0, 11]), (20, [1, 0], [50, 1, 1, 1005, 1002, 0, 6, 4, 2, 1, 0, 0, 1, 3, 1, 2, 4, 3, 2, 1, 5, 0, 2]), (20, [6, 0], [50, 1, 0, 1012, 4, 6, 1, 2, 1, 0, 0, 1, 1, 3, 2, 1, 12, 0, 1]), (20, [0], [30, -1, -1, 1, 8]), (102, [13], [0, 13008, 13009]), (7, [10, 11], [0]), (8, [2], [3]), (8, [7], [3]), (7, [7, 2], [1]), (8, [2], [3]), (8, [7], [3]), (8, [6], [1])], [], [], [(20, [0, 3], [50, 3, 0, 8, 12, 11, 3, 7, 0, 2, 0, 1, 2, 0, 8, 3, 7, 1, 3, 2, 0, 12, 0, 0, 0, 6, 4, 2, 1, 1, 0, 1, 2, 0, 11]), (20, [0, 4], [50, 2, 0, 8, 11, 3, 7, 0, 2, 0, 1, 2, 0, 8, 0, 6, 4, 2, 1, 1, 0, 1, 2, 0, 11]), (20, [0, 15], [31, 1, -1, -1, 1, 8, 0, -1, 0, 0]), (20, [0, 2], [50, 2, 1, 8, 5, 2, 3, 7, 0, 2, 0, 1, 2, 0, 8, 3, 6, 0, 2, 1, 1, 0, -1, 0, 10, 3, 0, 2, 4, 3, 2, 0, 5, 0, 1, 0, 47])], [], [])
theorem oo_Mo_met_27 {kA : Nat → ClassId} : or_ok kA GG o_Mo_met_27 := by
  intro A ta ws vs hD hth hl hk hds hf
  have hl : vs.length = 16 := hl
  have hk : ∀ q ∈ ([(0, (2, 0, 0, [150])), (1, (0, 0, 7, [])), (2, (0, 0, 23, [])), (3, (0, 0, 2000, [])), (4, (0, 0, 2000, [])), (6, (0, 1, 1, [])), (7, (0, 0, 23, [])), (10, (0, 48, 48, [])), (11, (0, 48, 48, [])), (14, (0, 1, 5, [])), (15, (0, -1, -1, []))] : List (Nat × tv_T)), tv_ok ta q.2 (n_v vs q.1) := hk
  obtain ⟨t0, hk⟩ := List.forall_mem_cons.mp hk
  have t0 : tv_ok ta (2, 0, 0, [150]) (n_v vs 0) := t0
  have r0 : ta (v_ad (n_v vs 0)) = some 150 := tv_rg t0
  obtain ⟨t1, hk⟩ := List.forall_mem_cons.mp hk
  have t1 : tv_ok ta (0, 0, 7, []) (n_v vs 1) := t1
  have k1 : 0 ≤ v_iv (n_v vs 1) ∧ v_iv (n_v vs 1) ≤ 7 := tv_rng t1
  obtain ⟨t2, hk⟩ := List.forall_mem_cons.mp hk
  have t2 : tv_ok ta (0, 0, 23, []) (n_v vs 2) := t2
  have k2 : 0 ≤ v_iv (n_v vs 2) ∧ v_iv (n_v vs 2) ≤ 23 := tv_rng t2
  obtain ⟨t3, hk⟩ := List.forall_mem_cons.mp hk
  have t3 : tv_ok ta (0, 0, 2000, []) (n_v vs 3) := t3
  have k3 : 0 ≤ v_iv (n_v vs 3) ∧ v_iv (n_v vs 3) ≤ 2000 := tv_rng t3
  obtain ⟨t4, hk⟩ := List.forall_mem_cons.mp hk
  have t4 : tv_ok ta (0, 0, 2000, []) (n_v vs 4) := t4
  have k4 : 0 ≤ v_iv (n_v vs 4) ∧ v_iv (n_v vs 4) ≤ 2000 := tv_rng t4
  obtain ⟨t6, hk⟩ := List.forall_mem_cons.mp hk
  have t6 : tv_ok ta (0, 1, 1, []) (n_v vs 6) := t6
  have k6 : 1 ≤ v_iv (n_v vs 6) ∧ v_iv (n_v vs 6) ≤ 1 := tv_rng t6
  obtain ⟨t7, hk⟩ := List.forall_mem_cons.mp hk
  have t7 : tv_ok ta (0, 0, 23, []) (n_v vs 7) := t7
  have k7 : 0 ≤ v_iv (n_v vs 7) ∧ v_iv (n_v vs 7) ≤ 23 := tv_rng t7
  obtain ⟨t10, hk⟩ := List.forall_mem_cons.mp hk
  have t10 : tv_ok ta (0, 48, 48, []) (n_v vs 10) := t10
  have k10 : 48 ≤ v_iv (n_v vs 10) ∧ v_iv (n_v vs 10) ≤ 48 := tv_rng t10
  obtain ⟨t11, hk⟩ := List.forall_mem_cons.mp hk
  have t11 : tv_ok ta (0, 48, 48, []) (n_v vs 11) := t11
  have k11 : 48 ≤ v_iv (n_v vs 11) ∧ v_iv (n_v vs 11) ≤ 48 := tv_rng t11
  obtain ⟨t14, hk⟩ := List.forall_mem_cons.mp hk
  have t14 : tv_ok ta (0, 1, 5, []) (n_v vs 14) := t14
  have k14 : 1 ≤ v_iv (n_v vs 14) ∧ v_iv (n_v vs 14) ≤ 5 := tv_rng t14
  obtain ⟨t15, hk⟩ := List.forall_mem_cons.mp hk
  have t15 : tv_ok ta (0, -1, -1, []) (n_v vs 15) := t15
  have k15 : (-1) ≤ v_iv (n_v vs 15) ∧ v_iv (n_v vs 15) ≤ (-1) := tv_rng t15
  have hf : fc_ok [(8, [14], [4]), (9, [14, 0], [8]), (20, [10, 0], [30, 0, 1, 0, 0, -1, 3, 2005001]), (20, [10, 0], [30, 0, -1, 0, 0, 1, 3, 2005001]), (20, [0, 0], [30, 0, 1, 1, 15, -1, 1, 11]), (20, [0], [50, 3, 0, 12, 11, 15, 2, 21, 4, 7, 1, 3, 2, 0, 12, 0, 1, 0, 3, 2, 0, 11, 4, 3, 2, 0, 15, 0, 8, 3, 7, 1, 3, 2, 0, 12, 0, 0, 0, 7, 4, 3, 2, 0, 15, 0, 1, 2, 0, 11]), (20, [3, 0], [30, 0, 1, 0, 0, -1, 1, 11]), (20, [0, 4], [50, 2, 0, 12, 11, 3, 7, 1, 3, 2, 0, 12, 0, 0, 0, 6, 4, 2, 1, 1, 0, 1, 2, 0, 11]), (20, [1, 0], [50, 1, 1, 1005, 1002, 0, 6, 4, 2, 1, 0, 0, 1, 3, 1, 2, 4, 3, 2, 1, 5, 0, 2]), (20, [6, 0], [50, 1, 0, 1012, 4, 6, 1, 2, 1, 0, 0, 1, 1, 3, 2, 1, 12, 0, 1]), (20, [0], [30, -1, -1, 1, 8]), (102, [13], [0, 13008, 13009]), (7, [10, 11], [0]), (8, [2], [3]), (8, [7], [3]), (7, [7, 2], [1]), (8, [2], [3]), (8, [7], [3]), (8, [6], [1])] ta ws vs := hf
  obtain ⟨f0, hf⟩ := fc_un (show (8 : Nat) < 100 from by decide) hf
  have f0 : 0 < v_iv (n_v vs 14) := f0
  obtain ⟨f1, hf⟩ := fc_un (show (9 : Nat) < 100 from by decide) hf
  have f1 : n_v vs 14 = w_fd ws (v_ad (n_v vs 0)) 8 := f1
  obtain ⟨f2, hf⟩ := fc_un (show (20 : Nat) < 100 from by decide) hf
  have f2 : 1 * v_iv (n_v vs 10) + ((-1) * w_el ws (w_ar ws (n_v vs 0) 2) (w_fi ws (n_v vs 0) 5 + 1).toNat + 0) ≤ 0 := f2
  obtain ⟨f3, hf⟩ := fc_un (show (20 : Nat) < 100 from by decide) hf
  have f3 : (-1) * v_iv (n_v vs 10) + (1 * w_el ws (w_ar ws (n_v vs 0) 2) (w_fi ws (n_v vs 0) 5 + 1).toNat + 0) ≤ 0 := f3
  obtain ⟨f4, hf⟩ := fc_un (show (20 : Nat) < 100 from by decide) hf
  have f4 : 1 * w_fi ws (n_v vs 0) 15 + ((-1) * w_fi ws (n_v vs 0) 11 + 0) ≤ 0 := f4
  obtain ⟨f5, hf⟩ := fc_un (show (20 : Nat) < 100 from by decide) hf
  have f5 : ((w_fi ws (n_v vs 0) 12 = 1) → (w_fi ws (n_v vs 0) 11 ≤ (w_fi ws (n_v vs 0) 15 + 8))) ∧ ((w_fi ws (n_v vs 0) 12 = 0) ∨ ((w_fi ws (n_v vs 0) 15 + 1) ≤ w_fi ws (n_v vs 0) 11)) := f5
  obtain ⟨f6, hf⟩ := fc_un (show (20 : Nat) < 100 from by decide) hf
  have f6 : 1 * v_iv (n_v vs 3) + ((-1) * w_fi ws (n_v vs 0) 11 + 0) ≤ 0 := f6
  obtain ⟨f7, hf⟩ := fc_un (show (20 : Nat) < 100 from by decide) hf
  have f7 : (w_fi ws (n_v vs 0) 12 = 0) ∨ ((v_iv (n_v vs 4) + 1) ≤ w_fi ws (n_v vs 0) 11) := f7
  obtain ⟨f8, hf⟩ := fc_un (show (20 : Nat) < 100 from by decide) hf
  have f8 : (v_iv (n_v vs 1) + 1) ≤ w_ei ws (w_ar ws (n_v vs 0) 2) ((w_fi ws (n_v vs 0) 5 + 2)) := f8
  obtain ⟨f9, hf⟩ := fc_un (show (20 : Nat) < 100 from by decide) hf
  have f9 : (v_iv (n_v vs 6) = 1) → (w_fi ws (n_v vs 0) 12 = 1) := f9
  obtain ⟨f10, hf⟩ := fc_un (show (20 : Nat) < 100 from by decide) hf
  have f10 : (-1) * w_fi ws (n_v vs 0) 8 + 0 ≤ (-1) := f10
  obtain ⟨ta1, w1, le1, ⟨_, s1⟩, hf⟩ := fc_us (show ¬ (102 : Nat) < 100 from by decide) hf
  obtain ⟨f12, hf⟩ := fc_un (show (7 : Nat) < 100 from by decide) hf
  have f12 : v_iv (n_v vs 10) = v_iv (n_v vs 11) := f12
  obtain ⟨f13, hf⟩ := fc_un (show (8 : Nat) < 100 from by decide) hf
  have f13 : 0 ≤ v_iv (n_v vs 2) := f13
  obtain ⟨f14, hf⟩ := fc_un (show (8 : Nat) < 100 from by decide) hf
  have f14 : 0 ≤ v_iv (n_v vs 7) := f14
  obtain ⟨f15, hf⟩ := fc_un (show (7 : Nat) < 100 from by decide) hf
  have f15 : v_iv (n_v vs 7) ≠ v_iv (n_v vs 2) := f15
  obtain ⟨f16, hf⟩ := fc_un (show (8 : Nat) < 100 from by decide) hf
  have f16 : 0 ≤ v_iv (n_v vs 2) := f16
  obtain ⟨f17, hf⟩ := fc_un (show (8 : Nat) < 100 from by decide) hf
  have f17 : 0 ≤ v_iv (n_v vs 7) := f17
  obtain ⟨f18, hf⟩ := fc_un (show (8 : Nat) < 100 from by decide) hf
  have f18 : v_iv (n_v vs 6) ≠ 0 := f18
  have cr_0_2 : ta (w_ar ws (n_v vs 0) 2) = some 152 := tv_rg (th_fd hD hth r0 (g := GG_150) rfl (k := 2) (t := (2, 0, 0, [152])) rfl rfl)
  have g1 : v_iv (n_v vs 14) = w_fi ws (n_v vs 0) 8 := congrArg v_iv f1
  have br_0_2_F5_1_0 : w_ei ws (w_ar ws (n_v vs 0) 2) (w_fi ws (n_v vs 0) 5 + 1) = w_el ws (w_ar ws (n_v vs 0) 2) (w_fi ws (n_v vs 0) 5 + 1).toNat := rfl
  have kz_0_8 : 0 ≤ w_fi ws (n_v vs 0) 8 ∧ w_fi ws (n_v vs 0) 8 ≤ 5 := tv_rng (th_fd hD hth r0 (g := GG_150) rfl (k := 8) (t := (0, 0, 5, [])) rfl rfl)
  have kz_0_11 : 0 ≤ w_fi ws (n_v vs 0) 11 ∧ w_fi ws (n_v vs 0) 11 ≤ 2000 := tv_rng (th_fd hD hth r0 (g := GG_150) rfl (k := 11) (t := (0, 0, 2000, [])) rfl rfl)
  have kz_0_12 : 0 ≤ w_fi ws (n_v vs 0) 12 ∧ w_fi ws (n_v vs 0) 12 ≤ 4 := tv_rng (th_fd hD hth r0 (g := GG_150) rfl (k := 12) (t := (0, 0, 4, [])) rfl rfl)
  have kz_0_15 : 0 ≤ w_fi ws (n_v vs 0) 15 ∧ w_fi ws (n_v vs 0) 15 ≤ 2000 := tv_rng (th_fd hD hth r0 (g := GG_150) rfl (k := 15) (t := (0, 0, 2000, [])) rfl rfl)
  have nf0 : fc_1 (20, [0, 3], [50, 3, 0, 8, 12, 11, 3, 7, 0, 2, 0, 1, 2, 0, 8, 3, 7, 1, 3, 2, 0, 12, 0, 0, 0, 6, 4, 2, 1, 1, 0, 1, 2, 0, 11]) ws (vs) := by
    refine ⟨fun n hn => ?_, ?_⟩
    · have hn : n ∈ [0, 3] := hn
      rw [hl]
      simp only [List.mem_cons, List.not_mem_nil, or_false] at hn
      show n < 16; omega
    · show (1 ≤ w_fi ws (n_v vs 0) 8) ∨ ((w_fi ws (n_v vs 0) 12 = 0) ∨ ((v_iv (n_v vs 3) + 1) ≤ w_fi ws (n_v vs 0) 11))
      first | omega | grind
  have nf1 : fc_1 (20, [0, 4], [50, 2, 0, 8, 11, 3, 7, 0, 2, 0, 1, 2, 0, 8, 0, 6, 4, 2, 1, 1, 0, 1, 2, 0, 11]) ws (vs) := by
    refine ⟨fun n hn => ?_, ?_⟩
    · have hn : n ∈ [0, 4] := hn
      rw [hl]
      simp only [List.mem_cons, List.not_mem_nil, or_false] at hn
      show n < 16; omega
    · show (1 ≤ w_fi ws (n_v vs 0) 8) ∨ ((v_iv (n_v vs 4) + 1) ≤ w_fi ws (n_v vs 0) 11)
      first | omega | grind
  have nf2 : fc_1 (20, [0, 15], [31, 1, -1, -1, 1, 8, 0, -1, 0, 0]) ws (vs) := by
    refine ⟨fun n hn => ?_, ?_⟩
    · have hn : n ∈ [0, 15] := hn
      rw [hl]
      simp only [List.mem_cons, List.not_mem_nil, or_false] at hn
      show n < 16; omega
    · show ((-1) * w_fi ws (n_v vs 0) 8 + 0 ≤ (-1)) ∨ ((-1) * v_iv (n_v vs 15) + 0 ≤ 0)
      omega
  have nf3 : fc_1 (20, [0, 2], [50, 2, 1, 8, 5, 2, 3, 7, 0, 2, 0, 1, 2, 0, 8, 3, 6, 0, 2, 1, 1, 0, -1, 0, 10, 3, 0, 2, 4, 3, 2, 0, 5, 0, 1, 0, 47]) ws (vs) := by
    refine ⟨fun n hn => ?_, ?_⟩
    · have hn : n ∈ [0, 2] := hn
      rw [hl]
      simp only [List.mem_cons, List.not_mem_nil, or_false] at hn
      show n < 16; omega
    · show (1 ≤ w_fi ws (n_v vs 0) 8) ∨ ((v_iv (n_v vs 2) ≤ (-1)) ∨ (w_ei ws (w_ar ws (n_v vs 0) 2) ((w_fi ws (n_v vs 0) 5 + 1)) ≤ 47))
      first | omega | grind
  refine ⟨(fun _ h => (by cases h)), [], trivial, ?_, (fun _ h => (by cases h))⟩
  rw [List.append_nil]
  exact List.forall_mem_cons.mpr ⟨⟨show (20 : Nat) < 100 from by decide, nf0⟩, List.forall_mem_cons.mpr ⟨⟨show (20 : Nat) < 100 from by decide, nf1⟩, List.forall_mem_cons.mpr ⟨⟨show (20 : Nat) < 100 from by decide, nf2⟩, List.forall_mem_cons.mpr ⟨⟨show (20 : Nat) < 100 from by decide, nf3⟩, (fun _ h => (by cases h))⟩⟩⟩⟩
def o_Mo_met_28 : or_T := (254, 13, [(0, (2, 0, 0, [150])), (1, (0, 0, 7, [])), (2, (0, 0, 23, [])), (3, (0, 0, 2000, [])), (4, (0, 0, 2000, [])), (6, (0, 1, 1, [])), (7, (0, 0, 23, [])), (12, (0, 0, 0, []))], [(8, [7], [3]), (8, [12], [5]), (9, [12, 0], [8]), (20, [0, 0], [30, 0, 1, 1, 15, -1, 1, 11]), (20, [0], [50, 3, 0, 12, 11, 15, 2, 21, 4, 7, 1, 3, 2, 0, 12, 0, 1, 0, 3, 2, 0, 11, 4, 3, 2, 0, 15, 0, 8, 3, 7, 1, 3, 2, 0, 12, 0, 0, 0, 7, 4, 3, 2, 0, 15, 0, 1, 2, 0, 11]), (20, [3, 0], [30, 0, 1, 0, 0, -1, 1, 11]), (20, [0, 4], [50, 2, 0, 12, 11, 3, 7, 1, 3, 2, 0, 12, 0, 0, 0, 6, 4, 2, 1, 1, 0, 1, 2, 0, 11]), (20, [1, 0], [50, 1, 1, 1005, 1002, 0, 6, 4, 2, 1, 0, 0, 1, 3, 1, 2, 4, 3, 2, 1, 5, 0, 2]), (20, [6, 0], [50, 1, 0, 1012, 4, 6, 1, 2, 1, 0, 0, 1, 1, 3, 2, 1, 12, 0, 1]), (20, [0], [30, -1, -1, 1, 8]), (102, [11], [0, 13008, 13009]), (7, [7, 2], [1]), (8, [2], [3]), (8, [7], [3]), (8, [6], [1])], [], [(0, 0, 2000, [])], [(20, [2, 0], [50, 1, 1, 1005, 1002, 3, 6, 0, 2, 1, 0, 0, -1, 0, 10, 3, 1, 2, 4, 3, 2, 1, 5, 0, 1, 0, 47]), (20, [13, 0], [30, 0, 1, 0, 0, -1, 1, 11]), (23, [3, 13], [0, 1, -1]), (23, [4, 13], [-1, 1, -1])], [], [])
theorem oo_Mo_met_28 {kA : Nat → ClassId} : or_ok kA GG o_Mo_met_28 := by
  intro A ta ws vs hD hth hl hk hds hf
  have hl : vs.length = 13 := hl
  have hk : ∀ q ∈ ([(0, (2, 0, 0, [150])), (1, (0, 0, 7, [])), (2, (0, 0, 23, [])), (3, (0, 0, 2000, [])), (4, (0, 0, 2000, [])), (6, (0, 1, 1, [])), (7, (0, 0, 23, [])), (12, (0, 0, 0, []))] : List (Nat × tv_T)), tv_ok ta q.2 (n_v vs q.1) := hk
  obtain ⟨t0, hk⟩ := List.forall_mem_cons.mp hk
  have t0 : tv_ok ta (2, 0, 0, [150]) (n_v vs 0) := t0
  have r0 : ta (v_ad (n_v vs 0)) = some 150 := tv_rg t0
  obtain ⟨t1, hk⟩ := List.forall_mem_cons.mp hk
  have t1 : tv_ok ta (0, 0, 7, []) (n_v vs 1) := t1
  have k1 : 0 ≤ v_iv (n_v vs 1) ∧ v_iv (n_v vs 1) ≤ 7 := tv_rng t1
  obtain ⟨t2, hk⟩ := List.forall_mem_cons.mp hk
  have t2 : tv_ok ta (0, 0, 23, []) (n_v vs 2) := t2
  have k2 : 0 ≤ v_iv (n_v vs 2) ∧ v_iv (n_v vs 2) ≤ 23 := tv_rng t2
  obtain ⟨t3, hk⟩ := List.forall_mem_cons.mp hk
  have t3 : tv_ok ta (0, 0, 2000, []) (n_v vs 3) := t3
  have k3 : 0 ≤ v_iv (n_v vs 3) ∧ v_iv (n_v vs 3) ≤ 2000 := tv_rng t3
  obtain ⟨t4, hk⟩ := List.forall_mem_cons.mp hk
  have t4 : tv_ok ta (0, 0, 2000, []) (n_v vs 4) := t4
  have k4 : 0 ≤ v_iv (n_v vs 4) ∧ v_iv (n_v vs 4) ≤ 2000 := tv_rng t4
  obtain ⟨t6, hk⟩ := List.forall_mem_cons.mp hk
  have t6 : tv_ok ta (0, 1, 1, []) (n_v vs 6) := t6
  have k6 : 1 ≤ v_iv (n_v vs 6) ∧ v_iv (n_v vs 6) ≤ 1 := tv_rng t6
  obtain ⟨t7, hk⟩ := List.forall_mem_cons.mp hk
  have t7 : tv_ok ta (0, 0, 23, []) (n_v vs 7) := t7
  have k7 : 0 ≤ v_iv (n_v vs 7) ∧ v_iv (n_v vs 7) ≤ 23 := tv_rng t7
  obtain ⟨t12, hk⟩ := List.forall_mem_cons.mp hk
  have t12 : tv_ok ta (0, 0, 0, []) (n_v vs 12) := t12
  have k12 : 0 ≤ v_iv (n_v vs 12) ∧ v_iv (n_v vs 12) ≤ 0 := tv_rng t12
  have hf : fc_ok [(8, [7], [3]), (8, [12], [5]), (9, [12, 0], [8]), (20, [0, 0], [30, 0, 1, 1, 15, -1, 1, 11]), (20, [0], [50, 3, 0, 12, 11, 15, 2, 21, 4, 7, 1, 3, 2, 0, 12, 0, 1, 0, 3, 2, 0, 11, 4, 3, 2, 0, 15, 0, 8, 3, 7, 1, 3, 2, 0, 12, 0, 0, 0, 7, 4, 3, 2, 0, 15, 0, 1, 2, 0, 11]), (20, [3, 0], [30, 0, 1, 0, 0, -1, 1, 11]), (20, [0, 4], [50, 2, 0, 12, 11, 3, 7, 1, 3, 2, 0, 12, 0, 0, 0, 6, 4, 2, 1, 1, 0, 1, 2, 0, 11]), (20, [1, 0], [50, 1, 1, 1005, 1002, 0, 6, 4, 2, 1, 0, 0, 1, 3, 1, 2, 4, 3, 2, 1, 5, 0, 2]), (20, [6, 0], [50, 1, 0, 1012, 4, 6, 1, 2, 1, 0, 0, 1, 1, 3, 2, 1, 12, 0, 1]), (20, [0], [30, -1, -1, 1, 8]), (102, [11], [0, 13008, 13009]), (7, [7, 2], [1]), (8, [2], [3]), (8, [7], [3]), (8, [6], [1])] ta ws vs := hf
  obtain ⟨f0, hf⟩ := fc_un (show (8 : Nat) < 100 from by decide) hf
  have f0 : 0 ≤ v_iv (n_v vs 7) := f0
  obtain ⟨f1, hf⟩ := fc_un (show (8 : Nat) < 100 from by decide) hf
  have f1 : v_iv (n_v vs 12) ≤ 0 := f1
  obtain ⟨f2, hf⟩ := fc_un (show (9 : Nat) < 100 from by decide) hf
  have f2 : n_v vs 12 = w_fd ws (v_ad (n_v vs 0)) 8 := f2
  obtain ⟨f3, hf⟩ := fc_un (show (20 : Nat) < 100 from by decide) hf
  have f3 : 1 * w_fi ws (n_v vs 0) 15 + ((-1) * w_fi ws (n_v vs 0) 11 + 0) ≤ 0 := f3
  obtain ⟨f4, hf⟩ := fc_un (show (20 : Nat) < 100 from by decide) hf
  have f4 : ((w_fi ws (n_v vs 0) 12 = 1) → (w_fi ws (n_v vs 0) 11 ≤ (w_fi ws (n_v vs 0) 15 + 8))) ∧ ((w_fi ws (n_v vs 0) 12 = 0) ∨ ((w_fi ws (n_v vs 0) 15 + 1) ≤ w_fi ws (n_v vs 0) 11)) := f4
  obtain ⟨f5, hf⟩ := fc_un (show (20 : Nat) < 100 from by decide) hf
  have f5 : 1 * v_iv (n_v vs 3) + ((-1) * w_fi ws (n_v vs 0) 11 + 0) ≤ 0 := f5
  obtain ⟨f6, hf⟩ := fc_un (show (20 : Nat) < 100 from by decide) hf
  have f6 : (w_fi ws (n_v vs 0) 12 = 0) ∨ ((v_iv (n_v vs 4) + 1) ≤ w_fi ws (n_v vs 0) 11) := f6
  obtain ⟨f7, hf⟩ := fc_un (show (20 : Nat) < 100 from by decide) hf
  have f7 : (v_iv (n_v vs 1) + 1) ≤ w_ei ws (w_ar ws (n_v vs 0) 2) ((w_fi ws (n_v vs 0) 5 + 2)) := f7
  obtain ⟨f8, hf⟩ := fc_un (show (20 : Nat) < 100 from by decide) hf
  have f8 : (v_iv (n_v vs 6) = 1) → (w_fi ws (n_v vs 0) 12 = 1) := f8
  obtain ⟨f9, hf⟩ := fc_un (show (20 : Nat) < 100 from by decide) hf
  have f9 : (-1) * w_fi ws (n_v vs 0) 8 + 0 ≤ (-1) := f9
  obtain ⟨ta1, w1, le1, ⟨_, s1⟩, hf⟩ := fc_us (show ¬ (102 : Nat) < 100 from by decide) hf
  obtain ⟨f11, hf⟩ := fc_un (show (7 : Nat) < 100 from by decide) hf
  have f11 : v_iv (n_v vs 7) ≠ v_iv (n_v vs 2) := f11
  obtain ⟨f12, hf⟩ := fc_un (show (8 : Nat) < 100 from by decide) hf
  have f12 : 0 ≤ v_iv (n_v vs 2) := f12
  obtain ⟨f13, hf⟩ := fc_un (show (8 : Nat) < 100 from by decide) hf
  have f13 : 0 ≤ v_iv (n_v vs 7) := f13
  obtain ⟨f14, hf⟩ := fc_un (show (8 : Nat) < 100 from by decide) hf
  have f14 : v_iv (n_v vs 6) ≠ 0 := f14
  have cr_0_2 : ta (w_ar ws (n_v vs 0) 2) = some 152 := tv_rg (th_fd hD hth r0 (g := GG_150) rfl (k := 2) (t := (2, 0, 0, [152])) rfl rfl)
  have g2 : v_iv (n_v vs 12) = w_fi ws (n_v vs 0) 8 := congrArg v_iv f2
  have kz_0_8 : 0 ≤ w_fi ws (n_v vs 0) 8 ∧ w_fi ws (n_v vs 0) 8 ≤ 5 := tv_rng (th_fd hD hth r0 (g := GG_150) rfl (k := 8) (t := (0, 0, 5, [])) rfl rfl)
  have kz_0_11 : 0 ≤ w_fi ws (n_v vs 0) 11 ∧ w_fi ws (n_v vs 0) 11 ≤ 2000 := tv_rng (th_fd hD hth r0 (g := GG_150) rfl (k := 11) (t := (0, 0, 2000, [])) rfl rfl)
  have kz_0_12 : 0 ≤ w_fi ws (n_v vs 0) 12 ∧ w_fi ws (n_v vs 0) 12 ≤ 4 := tv_rng (th_fd hD hth r0 (g := GG_150) rfl (k := 12) (t := (0, 0, 4, [])) rfl rfl)
  have kz_0_15 : 0 ≤ w_fi ws (n_v vs 0) 15 ∧ w_fi ws (n_v vs 0) 15 ≤ 2000 := tv_rng (th_fd hD hth r0 (g := GG_150) rfl (k := 15) (t := (0, 0, 2000, [])) rfl rfl)
  have kv0 : 0 ≤ w_fi ws (n_v vs 0) 11 ∧ w_fi ws (n_v vs 0) 11 ≤ 2000 := tv_rng (th_fd hD hth r0 (g := GG_150) rfl (k := 11) (t := (0, 0, 2000, [])) rfl rfl)
  obtain ⟨x, ex, hx⟩ := iv_ex (ta := ta) (lo := 0) (hi := 2000) (z := w_fi ws (n_v vs 0) 11) (by omega) (by omega) (by omega) (by omega)
  have ex2 : v_iv (Value.int x) = w_fi ws (n_v vs 0) 11 := ex
  have ex3 : 0 ≤ v_iv (Value.int x) ∧ v_iv (Value.int x) ≤ 2000 := tv_rng hx
  have e_0 : n_v (vs ++ [Value.int x]) 0 = n_v vs 0 := n_v_old (by rw [hl]; decide)
  have e_2 : n_v (vs ++ [Value.int x]) 2 = n_v vs 2 := n_v_old (by rw [hl]; decide)
  have e_3 : n_v (vs ++ [Value.int x]) 3 = n_v vs 3 := n_v_old (by rw [hl]; decide)
  have e_4 : n_v (vs ++ [Value.int x]) 4 = n_v vs 4 := n_v_old (by rw [hl]; decide)
  have e_13 : n_v (vs ++ [Value.int x]) 13 = Value.int x := n_v_new hl
  have nf0 : fc_1 (20, [2, 0], [50, 1, 1, 1005, 1002, 3, 6, 0, 2, 1, 0, 0, -1, 0, 10, 3, 1, 2, 4, 3, 2, 1, 5, 0, 1, 0, 47]) ws (vs ++ [Value.int x]) := by
    refine ⟨fun n hn => ?_, ?_⟩
    · have hn : n ∈ [2, 0] := hn
      rw [List.length_append, hl]
      simp only [List.mem_cons, List.not_mem_nil, or_false] at hn
      show n < 13 + 1; omega
    · show (v_iv (n_v (vs ++ [Value.int x]) 2) ≤ (-1)) ∨ (w_ei ws (w_ar ws (n_v (vs ++ [Value.int x]) 0) 2) ((w_fi ws (n_v (vs ++ [Value.int x]) 0) 5 + 1)) ≤ 47)
      rw [e_0]
      rw [e_2]
      first | omega | grind
  have nf1 : fc_1 (20, [13, 0], [30, 0, 1, 0, 0, -1, 1, 11]) ws (vs ++ [Value.int x]) := by
    refine ⟨fun n hn => ?_, ?_⟩
    · have hn : n ∈ [13, 0] := hn
      rw [List.length_append, hl]
      simp only [List.mem_cons, List.not_mem_nil, or_false] at hn
      show n < 13 + 1; omega
    · show 1 * v_iv (n_v (vs ++ [Value.int x]) 13) + ((-1) * w_fi ws (n_v (vs ++ [Value.int x]) 0) 11 + 0) ≤ 0
      rw [e_0]
      rw [e_13]
      omega
  have nf2 : fc_1 (23, [3, 13], [0, 1, -1]) ws (vs ++ [Value.int x]) := by
    refine ⟨fun n hn => ?_, ?_⟩
    · have hn : n ∈ [3, 13] := hn
      rw [List.length_append, hl]
      simp only [List.mem_cons, List.not_mem_nil, or_false] at hn
      show n < 13 + 1; omega
    · show 1 * v_iv (n_v (vs ++ [Value.int x]) 3) + ((-1) * v_iv (n_v (vs ++ [Value.int x]) 13) + 0) ≤ 0
      rw [e_3]
      rw [e_13]
      omega
  have nf3 : fc_1 (23, [4, 13], [-1, 1, -1]) ws (vs ++ [Value.int x]) := by
    refine ⟨fun n hn => ?_, ?_⟩
    · have hn : n ∈ [4, 13] := hn
      rw [List.length_append, hl]
      simp only [List.mem_cons, List.not_mem_nil, or_false] at hn
      show n < 13 + 1; omega
    · show 1 * v_iv (n_v (vs ++ [Value.int x]) 4) + ((-1) * v_iv (n_v (vs ++ [Value.int x]) 13) + 0) ≤ (-1)
      rw [e_4]
      rw [e_13]
      omega
  exact ⟨(fun _ h => (by cases h)), [Value.int x], ag_one hx, List.forall_mem_cons.mpr ⟨⟨show (20 : Nat) < 100 from by decide, nf0⟩, List.forall_mem_cons.mpr ⟨⟨show (20 : Nat) < 100 from by decide, nf1⟩, List.forall_mem_cons.mpr ⟨⟨show (23 : Nat) < 100 from by decide, nf2⟩, List.forall_mem_cons.mpr ⟨⟨show (23 : Nat) < 100 from by decide, nf3⟩, (fun _ h => (by cases h))⟩⟩⟩⟩, (fun _ h => (by cases h))⟩
def o_Mo_met_29 : or_T := (258, 14, [(0, (2, 0, 0, [150])), (1, (0, 0, 7, [])), (2, (0, 0, 23, [])), (3, (0, 0, 2000, [])), (4, (0, 0, 2000, [])), (7, (0, 0, 23, [])), (13, (0, 0, 2000, []))], [(20, [2, 0], [50, 1, 1, 1005, 1002, 3, 6, 0, 2, 1, 0, 0, -1, 0, 10, 3, 1, 2, 4, 3, 2, 1, 5, 0, 1, 0, 47]), (23, [3, 13], [0, 1, -1]), (23, [4, 13], [-1, 1, -1]), (20, [1, 0], [50, 1, 1, 1005, 1002, 0, 6, 4, 2, 1, 0, 0, 1, 3, 1, 2, 4, 3, 2, 1, 5, 0, 2]), (20, [0], [30, -1, -1, 1, 8]), (20, [0, 0], [30, 0, 1, 1, 15, -1, 1, 11]), (20, [0], [50, 3, 0, 12, 11, 15, 2, 21, 4, 7, 1, 3, 2, 0, 12, 0, 1, 0, 3, 2, 0, 11, 4, 3, 2, 0, 15, 0, 8, 3, 7, 1, 3, 2, 0, 12, 0, 0, 0, 7, 4, 3, 2, 0, 15, 0, 1, 2, 0, 11]), (20, [13, 0], [30, 0, 1, 0, 0, -1, 1, 15]), (102, [13], [0, 13011, 13012, 13013, 13014, 13015]), (23, [3, 13], [0, 1, -1]), (23, [4, 13], [-1, 1, -1]), (8, [7], [3]), (102, [11], [0, 13008, 13009]), (7, [7, 2], [1]), (8, [2], [3]), (8, [7], [3])], [], [], [(20, [3, 0], [30, 0, 1, 0, 0, -1, 1, 11]), (20, [0, 3], [50, 3, 0, 8, 12, 11, 3, 7, 0, 2, 0, 1, 2, 0, 8, 3, 7, 1, 3, 2, 0, 12, 0, 0, 0, 6, 4, 2, 1, 1, 0, 1, 2, 0, 11]), (20, [0, 4], [50, 2, 0, 8, 11, 3, 7, 0, 2, 0, 1, 2, 0, 8, 0, 6, 4, 2, 1, 1, 0, 1, 2, 0, 11]), (20, [0, 7], [31, 1, -1, -1, 1, 8, 0, -1, 0, 0]), (20, [0, 2], [50, 2, 1, 8, 5, 2, 3, 7, 0, 2, 0, 1, 2, 0, 8, 3, 6, 0, 2, 1, 1, 0, -1, 0, 10, 3, 0, 2, 4, 3, 2, 0, 5, 0, 1, 0, 47])], [], [])
theorem oo_Mo_met_29 {kA : Nat → ClassId} : or_ok kA GG o_Mo_met_29 := by
  intro A ta ws vs hD hth hl hk hds hf
  have hl : vs.length = 14 := hl
  have hk : ∀ q ∈ ([(0, (2, 0, 0, [150])), (1, (0, 0, 7, [])), (2, (0, 0, 23, [])), (3, (0, 0, 2000, [])), (4, (0, 0, 2000, [])), (7, (0, 0, 23, [])), (13, (0, 0, 2000, []))] : List (Nat × tv_T)), tv_ok ta q.2 (n_v vs q.1) := hk
  obtain ⟨t0, hk⟩ := List.forall_mem_cons.mp hk
  have t0 : tv_ok ta (2, 0, 0, [150]) (n_v vs 0) := t0
  have r0 : ta (v_ad (n_v vs 0)) = some 150 := tv_rg t0
  obtain ⟨t1, hk⟩ := List.forall_mem_cons.mp hk
  have t1 : tv_ok ta (0, 0, 7, []) (n_v vs 1) := t1
  have k1 : 0 ≤ v_iv (n_v vs 1) ∧ v_iv (n_v vs 1) ≤ 7 := tv_rng t1
  obtain ⟨t2, hk⟩ := List.forall_mem_cons.mp hk
  have t2 : tv_ok ta (0, 0, 23, []) (n_v vs 2) := t2
  have k2 : 0 ≤ v_iv (n_v vs 2) ∧ v_iv (n_v vs 2) ≤ 23 := tv_rng t2
  obtain ⟨t3, hk⟩ := List.forall_mem_cons.mp hk
  have t3 : tv_ok ta (0, 0, 2000, []) (n_v vs 3) := t3
  have k3 : 0 ≤ v_iv (n_v vs 3) ∧ v_iv (n_v vs 3) ≤ 2000 := tv_rng t3
  obtain ⟨t4, hk⟩ := List.forall_mem_cons.mp hk
  have t4 : tv_ok ta (0, 0, 2000, []) (n_v vs 4) := t4
  have k4 : 0 ≤ v_iv (n_v vs 4) ∧ v_iv (n_v vs 4) ≤ 2000 := tv_rng t4
  obtain ⟨t7, hk⟩ := List.forall_mem_cons.mp hk
  have t7 : tv_ok ta (0, 0, 23, []) (n_v vs 7) := t7
  have k7 : 0 ≤ v_iv (n_v vs 7) ∧ v_iv (n_v vs 7) ≤ 23 := tv_rng t7
  obtain ⟨t13, hk⟩ := List.forall_mem_cons.mp hk
  have t13 : tv_ok ta (0, 0, 2000, []) (n_v vs 13) := t13
  have k13 : 0 ≤ v_iv (n_v vs 13) ∧ v_iv (n_v vs 13) ≤ 2000 := tv_rng t13
  have hf : fc_ok [(20, [2, 0], [50, 1, 1, 1005, 1002, 3, 6, 0, 2, 1, 0, 0, -1, 0, 10, 3, 1, 2, 4, 3, 2, 1, 5, 0, 1, 0, 47]), (23, [3, 13], [0, 1, -1]), (23, [4, 13], [-1, 1, -1]), (20, [1, 0], [50, 1, 1, 1005, 1002, 0, 6, 4, 2, 1, 0, 0, 1, 3, 1, 2, 4, 3, 2, 1, 5, 0, 2]), (20, [0], [30, -1, -1, 1, 8]), (20, [0, 0], [30, 0, 1, 1, 15, -1, 1, 11]), (20, [0], [50, 3, 0, 12, 11, 15, 2, 21, 4, 7, 1, 3, 2, 0, 12, 0, 1, 0, 3, 2, 0, 11, 4, 3, 2, 0, 15, 0, 8, 3, 7, 1, 3, 2, 0, 12, 0, 0, 0, 7, 4, 3, 2, 0, 15, 0, 1, 2, 0, 11]), (20, [13, 0], [30, 0, 1, 0, 0, -1, 1, 15]), (102, [13], [0, 13011, 13012, 13013, 13014, 13015]), (23, [3, 13], [0, 1, -1]), (23, [4, 13], [-1, 1, -1]), (8, [7], [3]), (102, [11], [0, 13008, 13009]), (7, [7, 2], [1]), (8, [2], [3]), (8, [7], [3])] ta ws vs := hf
  obtain ⟨f0, hf⟩ := fc_un (show (20 : Nat) < 100 from by decide) hf
  have f0 : (v_iv (n_v vs 2) ≤ (-1)) ∨ (w_ei ws (w_ar ws (n_v vs 0) 2) ((w_fi ws (n_v vs 0) 5 + 1)) ≤ 47) := f0
  obtain ⟨f1, hf⟩ := fc_un (show (23 : Nat) < 100 from by decide) hf
  have f1 : 1 * v_iv (n_v vs 3) + ((-1) * v_iv (n_v vs 13) + 0) ≤ 0 := f1
  obtain ⟨f2, hf⟩ := fc_un (show (23 : Nat) < 100 from by decide) hf
  have f2 : 1 * v_iv (n_v vs 4) + ((-1) * v_iv (n_v vs 13) + 0) ≤ (-1) := f2
  obtain ⟨f3, hf⟩ := fc_un (show (20 : Nat) < 100 from by decide) hf
  have f3 : (v_iv (n_v vs 1) + 1) ≤ w_ei ws (w_ar ws (n_v vs 0) 2) ((w_fi ws (n_v vs 0) 5 + 2)) := f3
  obtain ⟨f4, hf⟩ := fc_un (show (20 : Nat) < 100 from by decide) hf
  have f4 : (-1) * w_fi ws (n_v vs 0) 8 + 0 ≤ (-1) := f4
  obtain ⟨f5, hf⟩ := fc_un (show (20 : Nat) < 100 from by decide) hf
  have f5 : 1 * w_fi ws (n_v vs 0) 15 + ((-1) * w_fi ws (n_v vs 0) 11 + 0) ≤ 0 := f5
  obtain ⟨f6, hf⟩ := fc_un (show (20 : Nat) < 100 from by decide) hf
  have f6 : ((w_fi ws (n_v vs 0) 12 = 1) → (w_fi ws (n_v vs 0) 11 ≤ (w_fi ws (n_v vs 0) 15 + 8))) ∧ ((w_fi ws (n_v vs 0) 12 = 0) ∨ ((w_fi ws (n_v vs 0) 15 + 1) ≤ w_fi ws (n_v vs 0) 11)) := f6
  obtain ⟨f7, hf⟩ := fc_un (show (20 : Nat) < 100 from by decide) hf
  have f7 : 1 * v_iv (n_v vs 13) + ((-1) * w_fi ws (n_v vs 0) 15 + 0) ≤ 0 := f7
  obtain ⟨ta1, w1, le1, ⟨_, s1⟩, hf⟩ := fc_us (show ¬ (102 : Nat) < 100 from by decide) hf
  obtain ⟨f9, hf⟩ := fc_un (show (23 : Nat) < 100 from by decide) hf
  have f9 : 1 * v_iv (n_v vs 3) + ((-1) * v_iv (n_v vs 13) + 0) ≤ 0 := f9
  obtain ⟨f10, hf⟩ := fc_un (show (23 : Nat) < 100 from by decide) hf
  have f10 : 1 * v_iv (n_v vs 4) + ((-1) * v_iv (n_v vs 13) + 0) ≤ (-1) := f10
  obtain ⟨f11, hf⟩ := fc_un (show (8 : Nat) < 100 from by decide) hf
  have f11 : 0 ≤ v_iv (n_v vs 7) := f11
  obtain ⟨ta2, w2, le2, ⟨_, s2⟩, hf⟩ := fc_us (show ¬ (102 : Nat) < 100 from by decide) hf
  obtain ⟨f13, hf⟩ := fc_un (show (7 : Nat) < 100 from by decide) hf
  have f13 : v_iv (n_v vs 7) ≠ v_iv (n_v vs 2) := f13
  obtain ⟨f14, hf⟩ := fc_un (show (8 : Nat) < 100 from by decide) hf
  have f14 : 0 ≤ v_iv (n_v vs 2) := f14
  obtain ⟨f15, hf⟩ := fc_un (show (8 : Nat) < 100 from by decide) hf
  have f15 : 0 ≤ v_iv (n_v vs 7) := f15
  have cr_0_2 : ta (w_ar ws (n_v vs 0) 2) = some 152 := tv_rg (th_fd hD hth r0 (g := GG_150) rfl (k := 2) (t := (2, 0, 0, [152])) rfl rfl)
  have kz_0_8 : 0 ≤ w_fi ws (n_v vs 0) 8 ∧ w_fi ws (n_v vs 0) 8 ≤ 5 := tv_rng (th_fd hD hth r0 (g := GG_150) rfl (k := 8) (t := (0, 0, 5, [])) rfl rfl)
  have kz_0_11 : 0 ≤ w_fi ws (n_v vs 0) 11 ∧ w_fi ws (n_v vs 0) 11 ≤ 2000 := tv_rng (th_fd hD hth r0 (g := GG_150) rfl (k := 11) (t := (0, 0, 2000, [])) rfl rfl)
  have kz_0_12 : 0 ≤ w_fi ws (n_v vs 0) 12 ∧ w_fi ws (n_v vs 0) 12 ≤ 4 := tv_rng (th_fd hD hth r0 (g := GG_150) rfl (k := 12) (t := (0, 0, 4, [])) rfl rfl)
  have kz_0_15 : 0 ≤ w_fi ws (n_v vs 0) 15 ∧ w_fi ws (n_v vs 0) 15 ≤ 2000 := tv_rng (th_fd hD hth r0 (g := GG_150) rfl (k := 15) (t := (0, 0, 2000, [])) rfl rfl)
  have nf0 : fc_1 (20, [3, 0], [30, 0, 1, 0, 0, -1, 1, 11]) ws (vs) := by
    refine ⟨fun n hn => ?_, ?_⟩
    · have hn : n ∈ [3, 0] := hn
      rw [hl]
      simp only [List.mem_cons, List.not_mem_nil, or_false] at hn
      show n < 14; omega
    · show 1 * v_iv (n_v vs 3) + ((-1) * w_fi ws (n_v vs 0) 11 + 0) ≤ 0
      omega
  have nf1 : fc_1 (20, [0, 3], [50, 3, 0, 8, 12, 11, 3, 7, 0, 2, 0, 1, 2, 0, 8, 3, 7, 1, 3, 2, 0, 12, 0, 0, 0, 6, 4, 2, 1, 1, 0, 1, 2, 0, 11]) ws (vs) := by
    refine ⟨fun n hn => ?_, ?_⟩
    · have hn : n ∈ [0, 3] := hn
      rw [hl]
      simp only [List.mem_cons, List.not_mem_nil, or_false] at hn
      show n < 14; omega
    · show (1 ≤ w_fi ws (n_v vs 0) 8) ∨ ((w_fi ws (n_v vs 0) 12 = 0) ∨ ((v_iv (n_v vs 3) + 1) ≤ w_fi ws (n_v vs 0) 11))
      first | omega | grind
  have nf2 : fc_1 (20, [0, 4], [50, 2, 0, 8, 11, 3, 7, 0, 2, 0, 1, 2, 0, 8, 0, 6, 4, 2, 1, 1, 0, 1, 2, 0, 11]) ws (vs) := by
    refine ⟨fun n hn => ?_, ?_⟩
    · have hn : n ∈ [0, 4] := hn
      rw [hl]
      simp only [List.mem_cons, List.not_mem_nil, or_false] at hn
      show n < 14; omega
    · show (1 ≤ w_fi ws (n_v vs 0) 8) ∨ ((v_iv (n_v vs 4) + 1) ≤ w_fi ws (n_v vs 0) 11)
      first | omega | grind
  have nf3 : fc_1 (20, [0, 7], [31, 1, -1, -1, 1, 8, 0, -1, 0, 0]) ws (vs) := by
    refine ⟨fun n hn => ?_, ?_⟩
    · have hn : n ∈ [0, 7] := hn
      rw [hl]
      simp only [List.mem_cons, List.not_mem_nil, or_false] at hn
      show n < 14; omega
    · show ((-1) * w_fi ws (n_v vs 0) 8 + 0 ≤ (-1)) ∨ ((-1) * v_iv (n_v vs 7) + 0 ≤ 0)
      omega
  have nf4 : fc_1 (20, [0, 2], [50, 2, 1, 8, 5, 2, 3, 7, 0, 2, 0, 1, 2, 0, 8, 3, 6, 0, 2, 1, 1, 0, -1, 0, 10, 3, 0, 2, 4, 3, 2, 0, 5, 0, 1, 0, 47]) ws (vs) := by
    refine ⟨fun n hn => ?_, ?_⟩
    · have hn : n ∈ [0, 2] := hn
      rw [hl]
      simp only [List.mem_cons, List.not_mem_nil, or_false] at hn
      show n < 14; omega
    · show (1 ≤ w_fi ws (n_v vs 0) 8) ∨ ((v_iv (n_v vs 2) ≤ (-1)) ∨ (w_ei ws (w_ar ws (n_v vs 0) 2) ((w_fi ws (n_v vs 0) 5 + 1)) ≤ 47))
      first | omega | grind
  refine ⟨(fun _ h => (by cases h)), [], trivial, ?_, (fun _ h => (by cases h))⟩
  rw [List.append_nil]
  exact List.forall_mem_cons.mpr ⟨⟨show (20 : Nat) < 100 from by decide, nf0⟩, List.forall_mem_cons.mpr ⟨⟨show (20 : Nat) < 100 from by decide, nf1⟩, List.forall_mem_cons.mpr ⟨⟨show (20 : Nat) < 100 from by decide, nf2⟩, List.forall_mem_cons.mpr ⟨⟨show (20 : Nat) < 100 from by decide, nf3⟩, List.forall_mem_cons.mpr ⟨⟨show (20 : Nat) < 100 from by decide, nf4⟩, (fun _ h => (by cases h))⟩⟩⟩⟩⟩
