def o_Ro_next_0 : or_T := (5, 4, [(0, (2, 0, 0, [9])), (1, (0, 0, 5999, [])), (3, (0, -2147483648, 2147483647, []))], [(9, [3, 0], [4]), (20, [0], [50, 2, 0, 4, 5, 2, 7, 0, 2, 0, 1, 2, 0, 4, 2, 7, 0, 2, 0, 1, 2, 0, 5, 0, 8, 6, 3, 2, 0, 4, 2, 0, 5, 0, 6000]), (20, [1, 0], [50, 2, 0, 1004, 1005, 0, 6, 4, 2, 1, 0, 0, 1, 6, 3, 2, 1, 4, 2, 1, 5])], [(3, (0, 1, 6000, []))], [], [], [], [])
theorem oo_Ro_next_0 {kA : Nat → ClassId} : or_ok kA GG o_Ro_next_0 := by
  intro A ta ws vs hD hth hl hk hds hf
  have hl : vs.length = 4 := hl
  have hk : ∀ q ∈ ([(0, (2, 0, 0, [9])), (1, (0, 0, 5999, [])), (3, (0, -2147483648, 2147483647, []))] : List (Nat × tv_T)), tv_ok ta q.2 (n_v vs q.1) := hk
  obtain ⟨t0, hk⟩ := List.forall_mem_cons.mp hk
  have t0 : tv_ok ta (2, 0, 0, [9]) (n_v vs 0) := t0
  have r0 : ta (v_ad (n_v vs 0)) = some 9 := tv_rg t0
  obtain ⟨t1, hk⟩ := List.forall_mem_cons.mp hk
  have t1 : tv_ok ta (0, 0, 5999, []) (n_v vs 1) := t1
  have k1 : 0 ≤ v_iv (n_v vs 1) ∧ v_iv (n_v vs 1) ≤ 5999 := tv_rng t1
  obtain ⟨t3, hk⟩ := List.forall_mem_cons.mp hk
  have t3 : tv_ok ta (0, -2147483648, 2147483647, []) (n_v vs 3) := t3
  have k3 : (-2147483648) ≤ v_iv (n_v vs 3) ∧ v_iv (n_v vs 3) ≤ 2147483647 := tv_rng t3
  have hf : fc_ok [(9, [3, 0], [4]), (20, [0], [50, 2, 0, 4, 5, 2, 7, 0, 2, 0, 1, 2, 0, 4, 2, 7, 0, 2, 0, 1, 2, 0, 5, 0, 8, 6, 3, 2, 0, 4, 2, 0, 5, 0, 6000]), (20, [1, 0], [50, 2, 0, 1004, 1005, 0, 6, 4, 2, 1, 0, 0, 1, 6, 3, 2, 1, 4, 2, 1, 5])] ta ws vs := hf
  obtain ⟨f0, hf⟩ := fc_un (show (9 : Nat) < 100 from by decide) hf
  have f0 : n_v vs 3 = w_fd ws (v_ad (n_v vs 0)) 4 := f0
  obtain ⟨f1, hf⟩ := fc_un (show (20 : Nat) < 100 from by decide) hf
  have f1 : (1 ≤ w_fi ws (n_v vs 0) 4) ∧ ((1 ≤ w_fi ws (n_v vs 0) 5) ∧ ((w_fi ws (n_v vs 0) 4 * w_fi ws (n_v vs 0) 5) ≤ 6000)) := f1
  obtain ⟨f2, hf⟩ := fc_un (show (20 : Nat) < 100 from by decide) hf
  have f2 : (v_iv (n_v vs 1) + 1) ≤ (w_fi ws (n_v vs 0) 4 * w_fi ws (n_v vs 0) 5) := f2
  have g0 : v_iv (n_v vs 3) = w_fi ws (n_v vs 0) 4 := congrArg v_iv f0
  have kz_0_4 : (-2147483648) ≤ w_fi ws (n_v vs 0) 4 ∧ w_fi ws (n_v vs 0) 4 ≤ 2147483647 := tv_rng (th_fd hD hth r0 (g := GG_9) rfl (k := 4) (t := (0, -2147483648, 2147483647, [])) rfl rfl)
  have kz_0_5 : (-2147483648) ≤ w_fi ws (n_v vs 0) 5 ∧ w_fi ws (n_v vs 0) 5 ≤ 2147483647 := tv_rng (th_fd hD hth r0 (g := GG_9) rfl (k := 5) (t := (0, -2147483648, 2147483647, [])) rfl rfl)
  have g1 := grid_bd (w := w_fi ws (n_v vs 0) 4) (h := w_fi ws (n_v vs 0) 5) (by omega) (by omega) (by omega)
  have rf3 : tv_ok ta (0, 1, 6000, []) (n_v vs 3) := tv_in t3 (by first | omega | grind) (by first | omega | grind)
  refine ⟨List.forall_mem_cons.mpr ⟨rf3, (fun _ h => (by cases h))⟩, [], trivial, ?_, (fun _ h => (by cases h))⟩
  rw [List.append_nil]
  exact (fun _ h => (by cases h))
def o_Ro_next_1 : or_T := (114, 7, [(0, (2, 0, 0, [9])), (1, (0, 0, 5999, [])), (3, (0, 1, 6000, [])), (4, (0, 0, 5999, [])), (5, (0, -6000, -1, [])), (6, (0, -1, -1, []))], [(8, [5], [2]), (2, [5, 1, 3], []), (9, [3, 0], [4]), (5, [4, 1, 3], []), (20, [0], [50, 2, 0, 4, 5, 2, 7, 0, 2, 0, 1, 2, 0, 4, 2, 7, 0, 2, 0, 1, 2, 0, 5, 0, 8, 6, 3, 2, 0, 4, 2, 0, 5, 0, 6000]), (20, [1, 0], [50, 2, 0, 1004, 1005, 0, 6, 4, 2, 1, 0, 0, 1, 6, 3, 2, 1, 4, 2, 1, 5])], [], [], [(20, [6, 0], [50, 2, 0, 1004, 1005, 3, 6, 1, 2, 1, 0, 0, -1, 2, 6, 0, 2, 0, 0, 1, 0, 0, 6, 4, 2, 1, 0, 0, 1, 6, 3, 2, 1, 4, 2, 1, 5])], [], [(5, 1, -6000, -1), (4, 3, -4294967295, -1)])
theorem oo_Ro_next_1 {kA : Nat → ClassId} : or_ok kA GG o_Ro_next_1 := by
  intro A ta ws vs hD hth hl hk hds hf
  have hl : vs.length = 7 := hl
  have hk : ∀ q ∈ ([(0, (2, 0, 0, [9])), (1, (0, 0, 5999, [])), (3, (0, 1, 6000, [])), (4, (0, 0, 5999, [])), (5, (0, -6000, -1, [])), (6, (0, -1, -1, []))] : List (Nat × tv_T)), tv_ok ta q.2 (n_v vs q.1) := hk
  obtain ⟨t0, hk⟩ := List.forall_mem_cons.mp hk
  have t0 : tv_ok ta (2, 0, 0, [9]) (n_v vs 0) := t0
  have r0 : ta (v_ad (n_v vs 0)) = some 9 := tv_rg t0
  obtain ⟨t1, hk⟩ := List.forall_mem_cons.mp hk
  have t1 : tv_ok ta (0, 0, 5999, []) (n_v vs 1) := t1
  have k1 : 0 ≤ v_iv (n_v vs 1) ∧ v_iv (n_v vs 1) ≤ 5999 := tv_rng t1
  obtain ⟨t3, hk⟩ := List.forall_mem_cons.mp hk
  have t3 : tv_ok ta (0, 1, 6000, []) (n_v vs 3) := t3
  have k3 : 1 ≤ v_iv (n_v vs 3) ∧ v_iv (n_v vs 3) ≤ 6000 := tv_rng t3
  obtain ⟨t4, hk⟩ := List.forall_mem_cons.mp hk
  have t4 : tv_ok ta (0, 0, 5999, []) (n_v vs 4) := t4
  have k4 : 0 ≤ v_iv (n_v vs 4) ∧ v_iv (n_v vs 4) ≤ 5999 := tv_rng t4
  obtain ⟨t5, hk⟩ := List.forall_mem_cons.mp hk
  have t5 : tv_ok ta (0, -6000, -1, []) (n_v vs 5) := t5
  have k5 : (-6000) ≤ v_iv (n_v vs 5) ∧ v_iv (n_v vs 5) ≤ (-1) := tv_rng t5
  obtain ⟨t6, hk⟩ := List.forall_mem_cons.mp hk
  have t6 : tv_ok ta (0, -1, -1, []) (n_v vs 6) := t6
  have k6 : (-1) ≤ v_iv (n_v vs 6) ∧ v_iv (n_v vs 6) ≤ (-1) := tv_rng t6
  have hds : ∀ q ∈ ([(5, 1, -6000, -1), (4, 3, -4294967295, -1)] : List of_T), n_iv vs q.2.1 + q.2.2.1 ≤ n_iv vs q.1 ∧ n_iv vs q.1 ≤ n_iv vs q.2.1 + q.2.2.2 := hds
  obtain ⟨d0, hds⟩ := List.forall_mem_cons.mp hds
  have d0 : v_iv (n_v vs 1) + (-6000) ≤ v_iv (n_v vs 5) ∧ v_iv (n_v vs 5) ≤ v_iv (n_v vs 1) + (-1) := d0
  obtain ⟨d1, hds⟩ := List.forall_mem_cons.mp hds
  have d1 : v_iv (n_v vs 3) + (-4294967295) ≤ v_iv (n_v vs 4) ∧ v_iv (n_v vs 4) ≤ v_iv (n_v vs 3) + (-1) := d1
  have hf : fc_ok [(8, [5], [2]), (2, [5, 1, 3], []), (9, [3, 0], [4]), (5, [4, 1, 3], []), (20, [0], [50, 2, 0, 4, 5, 2, 7, 0, 2, 0, 1, 2, 0, 4, 2, 7, 0, 2, 0, 1, 2, 0, 5, 0, 8, 6, 3, 2, 0, 4, 2, 0, 5, 0, 6000]), (20, [1, 0], [50, 2, 0, 1004, 1005, 0, 6, 4, 2, 1, 0, 0, 1, 6, 3, 2, 1, 4, 2, 1, 5])] ta ws vs := hf
  obtain ⟨f0, hf⟩ := fc_un (show (8 : Nat) < 100 from by decide) hf
  have f0 : v_iv (n_v vs 5) < 0 := f0
  obtain ⟨f1, hf⟩ := fc_un (show (2 : Nat) < 100 from by decide) hf
  have f1 : v_iv (n_v vs 5) = v_iv (n_v vs 1) - v_iv (n_v vs 3) := f1
  obtain ⟨f2, hf⟩ := fc_un (show (9 : Nat) < 100 from by decide) hf
  have f2 : n_v vs 3 = w_fd ws (v_ad (n_v vs 0)) 4 := f2
  obtain ⟨f3, hf⟩ := fc_un (show (5 : Nat) < 100 from by decide) hf
  have f3 : v_iv (n_v vs 4) = Int.tmod (v_iv (n_v vs 1)) (v_iv (n_v vs 3)) := f3
  obtain ⟨f4, hf⟩ := fc_un (show (20 : Nat) < 100 from by decide) hf
  have f4 : (1 ≤ w_fi ws (n_v vs 0) 4) ∧ ((1 ≤ w_fi ws (n_v vs 0) 5) ∧ ((w_fi ws (n_v vs 0) 4 * w_fi ws (n_v vs 0) 5) ≤ 6000)) := f4
  obtain ⟨f5, hf⟩ := fc_un (show (20 : Nat) < 100 from by decide) hf
  have f5 : (v_iv (n_v vs 1) + 1) ≤ (w_fi ws (n_v vs 0) 4 * w_fi ws (n_v vs 0) 5) := f5
  have g2 : v_iv (n_v vs 3) = w_fi ws (n_v vs 0) 4 := congrArg v_iv f2
  have kz_0_4 : (-2147483648) ≤ w_fi ws (n_v vs 0) 4 ∧ w_fi ws (n_v vs 0) 4 ≤ 2147483647 := tv_rng (th_fd hD hth r0 (g := GG_9) rfl (k := 4) (t := (0, -2147483648, 2147483647, [])) rfl rfl)
  have kz_0_5 : (-2147483648) ≤ w_fi ws (n_v vs 0) 5 ∧ w_fi ws (n_v vs 0) 5 ≤ 2147483647 := tv_rng (th_fd hD hth r0 (g := GG_9) rfl (k := 5) (t := (0, -2147483648, 2147483647, [])) rfl rfl)
  have g1 := grid_bd (w := w_fi ws (n_v vs 0) 4) (h := w_fi ws (n_v vs 0) 5) (by omega) (by omega) (by omega)
  have nf0 : fc_1 (20, [6, 0], [50, 2, 0, 1004, 1005, 3, 6, 1, 2, 1, 0, 0, -1, 2, 6, 0, 2, 0, 0, 1, 0, 0, 6, 4, 2, 1, 0, 0, 1, 6, 3, 2, 1, 4, 2, 1, 5]) ws (vs) := by
    refine ⟨fun n hn => ?_, ?_⟩
    · have hn : n ∈ [6, 0] := hn
      rw [hl]
      simp only [List.mem_cons, List.not_mem_nil, or_false] at hn
      show n < 7; omega
    · show (v_iv (n_v vs 6) = (-1)) ∨ ((0 ≤ v_iv (n_v vs 6)) ∧ ((v_iv (n_v vs 6) + 1) ≤ (w_fi ws (n_v vs 0) 4 * w_fi ws (n_v vs 0) 5)))
      first | omega | grind
  refine ⟨(fun _ h => (by cases h)), [], trivial, ?_, (fun _ h => (by cases h))⟩
  rw [List.append_nil]
  exact List.forall_mem_cons.mpr ⟨⟨show (20 : Nat) < 100 from by decide, nf0⟩, (fun _ h => (by cases h))⟩
def o_Ro_next_2 : or_T := (114, 7, [(0, (2, 0, 0, [9])), (1, (0, 1, 5999, [])), (3, (0, 1, 6000, [])), (4, (0, 0, 5999, [])), (5, (0, 0, 5998, [])), (6, (0, -5999, 5998, []))], [(2, [6, 1, 3], []), (9, [3, 0], [4]), (8, [5], [3]), (2, [5, 1, 3], []), (5, [4, 1, 3], []), (20, [0], [50, 2, 0, 4, 5, 2, 7, 0, 2, 0, 1, 2, 0, 4, 2, 7, 0, 2, 0, 1, 2, 0, 5, 0, 8, 6, 3, 2, 0, 4, 2, 0, 5, 0, 6000]), (20, [1, 0], [50, 2, 0, 1004, 1005, 0, 6, 4, 2, 1, 0, 0, 1, 6, 3, 2, 1, 4, 2, 1, 5])], [(6, (0, -1, 5998, []))], [], [(20, [6, 0], [50, 2, 0, 1004, 1005, 3, 6, 1, 2, 1, 0, 0, -1, 2, 6, 0, 2, 0, 0, 1, 0, 0, 6, 4, 2, 1, 0, 0, 1, 6, 3, 2, 1, 4, 2, 1, 5])], [], [(6, 1, -6000, -1), (5, 1, -6000, -1), (4, 3, -4294967295, -1)])
theorem oo_Ro_next_2 {kA : Nat → ClassId} : or_ok kA GG o_Ro_next_2 := by
  intro A ta ws vs hD hth hl hk hds hf
  have hl : vs.length = 7 := hl
  have hk : ∀ q ∈ ([(0, (2, 0, 0, [9])), (1, (0, 1, 5999, [])), (3, (0, 1, 6000, [])), (4, (0, 0, 5999, [])), (5, (0, 0, 5998, [])), (6, (0, -5999, 5998, []))] : List (Nat × tv_T)), tv_ok ta q.2 (n_v vs q.1) := hk
  obtain ⟨t0, hk⟩ := List.forall_mem_cons.mp hk
  have t0 : tv_ok ta (2, 0, 0, [9]) (n_v vs 0) := t0
  have r0 : ta (v_ad (n_v vs 0)) = some 9 := tv_rg t0
  obtain ⟨t1, hk⟩ := List.forall_mem_cons.mp hk
  have t1 : tv_ok ta (0, 1, 5999, []) (n_v vs 1) := t1
  have k1 : 1 ≤ v_iv (n_v vs 1) ∧ v_iv (n_v vs 1) ≤ 5999 := tv_rng t1
  obtain ⟨t3, hk⟩ := List.forall_mem_cons.mp hk
  have t3 : tv_ok ta (0, 1, 6000, []) (n_v vs 3) := t3
  have k3 : 1 ≤ v_iv (n_v vs 3) ∧ v_iv (n_v vs 3) ≤ 6000 := tv_rng t3
  obtain ⟨t4, hk⟩ := List.forall_mem_cons.mp hk
  have t4 : tv_ok ta (0, 0, 5999, []) (n_v vs 4) := t4
  have k4 : 0 ≤ v_iv (n_v vs 4) ∧ v_iv (n_v vs 4) ≤ 5999 := tv_rng t4
  obtain ⟨t5, hk⟩ := List.forall_mem_cons.mp hk
  have t5 : tv_ok ta (0, 0, 5998, []) (n_v vs 5) := t5
  have k5 : 0 ≤ v_iv (n_v vs 5) ∧ v_iv (n_v vs 5) ≤ 5998 := tv_rng t5
  obtain ⟨t6, hk⟩ := List.forall_mem_cons.mp hk
  have t6 : tv_ok ta (0, -5999, 5998, []) (n_v vs 6) := t6
  have k6 : (-5999) ≤ v_iv (n_v vs 6) ∧ v_iv (n_v vs 6) ≤ 5998 := tv_rng t6
  have hds : ∀ q ∈ ([(6, 1, -6000, -1), (5, 1, -6000, -1), (4, 3, -4294967295, -1)] : List of_T), n_iv vs q.2.1 + q.2.2.1 ≤ n_iv vs q.1 ∧ n_iv vs q.1 ≤ n_iv vs q.2.1 + q.2.2.2 := hds
  obtain ⟨d0, hds⟩ := List.forall_mem_cons.mp hds
  have d0 : v_iv (n_v vs 1) + (-6000) ≤ v_iv (n_v vs 6) ∧ v_iv (n_v vs 6) ≤ v_iv (n_v vs 1) + (-1) := d0
  obtain ⟨d1, hds⟩ := List.forall_mem_cons.mp hds
  have d1 : v_iv (n_v vs 1) + (-6000) ≤ v_iv (n_v vs 5) ∧ v_iv (n_v vs 5) ≤ v_iv (n_v vs 1) + (-1) := d1
  obtain ⟨d2, hds⟩ := List.forall_mem_cons.mp hds
  have d2 : v_iv (n_v vs 3) + (-4294967295) ≤ v_iv (n_v vs 4) ∧ v_iv (n_v vs 4) ≤ v_iv (n_v vs 3) + (-1) := d2
  have hf : fc_ok [(2, [6, 1, 3], []), (9, [3, 0], [4]), (8, [5], [3]), (2, [5, 1, 3], []), (5, [4, 1, 3], []), (20, [0], [50, 2, 0, 4, 5, 2, 7, 0, 2, 0, 1, 2, 0, 4, 2, 7, 0, 2, 0, 1, 2, 0, 5, 0, 8, 6, 3, 2, 0, 4, 2, 0, 5, 0, 6000]), (20, [1, 0], [50, 2, 0, 1004, 1005, 0, 6, 4, 2, 1, 0, 0, 1, 6, 3, 2, 1, 4, 2, 1, 5])] ta ws vs := hf
  obtain ⟨f0, hf⟩ := fc_un (show (2 : Nat) < 100 from by decide) hf
  have f0 : v_iv (n_v vs 6) = v_iv (n_v vs 1) - v_iv (n_v vs 3) := f0
  obtain ⟨f1, hf⟩ := fc_un (show (9 : Nat) < 100 from by decide) hf
  have f1 : n_v vs 3 = w_fd ws (v_ad (n_v vs 0)) 4 := f1
  obtain ⟨f2, hf⟩ := fc_un (show (8 : Nat) < 100 from by decide) hf
  have f2 : 0 ≤ v_iv (n_v vs 5) := f2
  obtain ⟨f3, hf⟩ := fc_un (show (2 : Nat) < 100 from by decide) hf
  have f3 : v_iv (n_v vs 5) = v_iv (n_v vs 1) - v_iv (n_v vs 3) := f3
  obtain ⟨f4, hf⟩ := fc_un (show (5 : Nat) < 100 from by decide) hf
  have f4 : v_iv (n_v vs 4) = Int.tmod (v_iv (n_v vs 1)) (v_iv (n_v vs 3)) := f4
  obtain ⟨f5, hf⟩ := fc_un (show (20 : Nat) < 100 from by decide) hf
  have f5 : (1 ≤ w_fi ws (n_v vs 0) 4) ∧ ((1 ≤ w_fi ws (n_v vs 0) 5) ∧ ((w_fi ws (n_v vs 0) 4 * w_fi ws (n_v vs 0) 5) ≤ 6000)) := f5
  obtain ⟨f6, hf⟩ := fc_un (show (20 : Nat) < 100 from by decide) hf
  have f6 : (v_iv (n_v vs 1) + 1) ≤ (w_fi ws (n_v vs 0) 4 * w_fi ws (n_v vs 0) 5) := f6
  have g1 : v_iv (n_v vs 3) = w_fi ws (n_v vs 0) 4 := congrArg v_iv f1
  have kz_0_4 : (-2147483648) ≤ w_fi ws (n_v vs 0) 4 ∧ w_fi ws (n_v vs 0) 4 ≤ 2147483647 := tv_rng (th_fd hD hth r0 (g := GG_9) rfl (k := 4) (t := (0, -2147483648, 2147483647, [])) rfl rfl)
  have kz_0_5 : (-2147483648) ≤ w_fi ws (n_v vs 0) 5 ∧ w_fi ws (n_v vs 0) 5 ≤ 2147483647 := tv_rng (th_fd hD hth r0 (g := GG_9) rfl (k := 5) (t := (0, -2147483648, 2147483647, [])) rfl rfl)
  have g1 := grid_bd (w := w_fi ws (n_v vs 0) 4) (h := w_fi ws (n_v vs 0) 5) (by omega) (by omega) (by omega)
  have nf0 : fc_1 (20, [6, 0], [50, 2, 0, 1004, 1005, 3, 6, 1, 2, 1, 0, 0, -1, 2, 6, 0, 2, 0, 0, 1, 0, 0, 6, 4, 2, 1, 0, 0, 1, 6, 3, 2, 1, 4, 2, 1, 5]) ws (vs) := by
    refine ⟨fun n hn => ?_, ?_⟩
    · have hn : n ∈ [6, 0] := hn
      rw [hl]
      simp only [List.mem_cons, List.not_mem_nil, or_false] at hn
      show n < 7; omega
    · show (v_iv (n_v vs 6) = (-1)) ∨ ((0 ≤ v_iv (n_v vs 6)) ∧ ((v_iv (n_v vs 6) + 1) ≤ (w_fi ws (n_v vs 0) 4 * w_fi ws (n_v vs 0) 5)))
      first | omega | grind
  have rf6 : tv_ok ta (0, -1, 5998, []) (n_v vs 6) := tv_in t6 (by first | omega | grind) (by first | omega | grind)
  refine ⟨List.forall_mem_cons.mpr ⟨rf6, (fun _ h => (by cases h))⟩, [], trivial, ?_, (fun _ h => (by cases h))⟩
  rw [List.append_nil]
  exact List.forall_mem_cons.mpr ⟨⟨show (20 : Nat) < 100 from by decide, nf0⟩, (fun _ h => (by cases h))⟩
def o_Ro_next_3 : or_T := (53, 8, [(0, (2, 0, 0, [9])), (1, (0, 0, 5999, [])), (3, (0, 1, 6000, [])), (4, (0, 0, 5999, [])), (5, (0, 1, 1, [])), (6, (0, 1, 6000, [])), (7, (0, -1, -1, []))], [(7, [6, 3], [3]), (9, [3, 0], [4]), (1, [6, 4, 5], []), (5, [4, 1, 3], []), (20, [0], [50, 2, 0, 4, 5, 2, 7, 0, 2, 0, 1, 2, 0, 4, 2, 7, 0, 2, 0, 1, 2, 0, 5, 0, 8, 6, 3, 2, 0, 4, 2, 0, 5, 0, 6000]), (20, [1, 0], [50, 2, 0, 1004, 1005, 0, 6, 4, 2, 1, 0, 0, 1, 6, 3, 2, 1, 4, 2, 1, 5])], [], [], [(20, [7, 0], [50, 2, 0, 1004, 1005, 3, 6, 1, 2, 1, 0, 0, -1, 2, 6, 0, 2, 0, 0, 1, 0, 0, 6, 4, 2, 1, 0, 0, 1, 6, 3, 2, 1, 4, 2, 1, 5])], [], [(6, 3, 0, 4294967296), (6, 4, 1, 1), (6, 3, -4294967294, 0), (4, 3, -4294967295, -1)])
theorem oo_Ro_next_3 {kA : Nat → ClassId} : or_ok kA GG o_Ro_next_3 := by
  intro A ta ws vs hD hth hl hk hds hf
  have hl : vs.length = 8 := hl
  have hk : ∀ q ∈ ([(0, (2, 0, 0, [9])), (1, (0, 0, 5999, [])), (3, (0, 1, 6000, [])), (4, (0, 0, 5999, [])), (5, (0, 1, 1, [])), (6, (0, 1, 6000, [])), (7, (0, -1, -1, []))] : List (Nat × tv_T)), tv_ok ta q.2 (n_v vs q.1) := hk
  obtain ⟨t0, hk⟩ := List.forall_mem_cons.mp hk
  have t0 : tv_ok ta (2, 0, 0, [9]) (n_v vs 0) := t0
  have r0 : ta (v_ad (n_v vs 0)) = some 9 := tv_rg t0
  obtain ⟨t1, hk⟩ := List.forall_mem_cons.mp hk
  have t1 : tv_ok ta (0, 0, 5999, []) (n_v vs 1) := t1
  have k1 : 0 ≤ v_iv (n_v vs 1) ∧ v_iv (n_v vs 1) ≤ 5999 := tv_rng t1
  obtain ⟨t3, hk⟩ := List.forall_mem_cons.mp hk
  have t3 : tv_ok ta (0, 1, 6000, []) (n_v vs 3) := t3
  have k3 : 1 ≤ v_iv (n_v vs 3) ∧ v_iv (n_v vs 3) ≤ 6000 := tv_rng t3
  obtain ⟨t4, hk⟩ := List.forall_mem_cons.mp hk
  have t4 : tv_ok ta (0, 0, 5999, []) (n_v vs 4) := t4
  have k4 : 0 ≤ v_iv (n_v vs 4) ∧ v_iv (n_v vs 4) ≤ 5999 := tv_rng t4
  obtain ⟨t5, hk⟩ := List.forall_mem_cons.mp hk
  have t5 : tv_ok ta (0, 1, 1, []) (n_v vs 5) := t5
  have k5 : 1 ≤ v_iv (n_v vs 5) ∧ v_iv (n_v vs 5) ≤ 1 := tv_rng t5
  obtain ⟨t6, hk⟩ := List.forall_mem_cons.mp hk
  have t6 : tv_ok ta (0, 1, 6000, []) (n_v vs 6) := t6
  have k6 : 1 ≤ v_iv (n_v vs 6) ∧ v_iv (n_v vs 6) ≤ 6000 := tv_rng t6
  obtain ⟨t7, hk⟩ := List.forall_mem_cons.mp hk
  have t7 : tv_ok ta (0, -1, -1, []) (n_v vs 7) := t7
  have k7 : (-1) ≤ v_iv (n_v vs 7) ∧ v_iv (n_v vs 7) ≤ (-1) := tv_rng t7
  have hds : ∀ q ∈ ([(6, 3, 0, 4294967296), (6, 4, 1, 1), (6, 3, -4294967294, 0), (4, 3, -4294967295, -1)] : List of_T), n_iv vs q.2.1 + q.2.2.1 ≤ n_iv vs q.1 ∧ n_iv vs q.1 ≤ n_iv vs q.2.1 + q.2.2.2 := hds
  obtain ⟨d0, hds⟩ := List.forall_mem_cons.mp hds
  have d0 : v_iv (n_v vs 3) + 0 ≤ v_iv (n_v vs 6) ∧ v_iv (n_v vs 6) ≤ v_iv (n_v vs 3) + 4294967296 := d0
  obtain ⟨d1, hds⟩ := List.forall_mem_cons.mp hds
  have d1 : v_iv (n_v vs 4) + 1 ≤ v_iv (n_v vs 6) ∧ v_iv (n_v vs 6) ≤ v_iv (n_v vs 4) + 1 := d1
  obtain ⟨d2, hds⟩ := List.forall_mem_cons.mp hds
  have d2 : v_iv (n_v vs 3) + (-4294967294) ≤ v_iv (n_v vs 6) ∧ v_iv (n_v vs 6) ≤ v_iv (n_v vs 3) + 0 := d2
  obtain ⟨d3, hds⟩ := List.forall_mem_cons.mp hds
  have d3 : v_iv (n_v vs 3) + (-4294967295) ≤ v_iv (n_v vs 4) ∧ v_iv (n_v vs 4) ≤ v_iv (n_v vs 3) + (-1) := d3
  have hf : fc_ok [(7, [6, 3], [3]), (9, [3, 0], [4]), (1, [6, 4, 5], []), (5, [4, 1, 3], []), (20, [0], [50, 2, 0, 4, 5, 2, 7, 0, 2, 0, 1, 2, 0, 4, 2, 7, 0, 2, 0, 1, 2, 0, 5, 0, 8, 6, 3, 2, 0, 4, 2, 0, 5, 0, 6000]), (20, [1, 0], [50, 2, 0, 1004, 1005, 0, 6, 4, 2, 1, 0, 0, 1, 6, 3, 2, 1, 4, 2, 1, 5])] ta ws vs := hf
  obtain ⟨f0, hf⟩ := fc_un (show (7 : Nat) < 100 from by decide) hf
  have f0 : v_iv (n_v vs 3) ≤ v_iv (n_v vs 6) := f0
  obtain ⟨f1, hf⟩ := fc_un (show (9 : Nat) < 100 from by decide) hf
  have f1 : n_v vs 3 = w_fd ws (v_ad (n_v vs 0)) 4 := f1
  obtain ⟨f2, hf⟩ := fc_un (show (1 : Nat) < 100 from by decide) hf
  have f2 : v_iv (n_v vs 6) = v_iv (n_v vs 4) + v_iv (n_v vs 5) := f2
  obtain ⟨f3, hf⟩ := fc_un (show (5 : Nat) < 100 from by decide) hf
  have f3 : v_iv (n_v vs 4) = Int.tmod (v_iv (n_v vs 1)) (v_iv (n_v vs 3)) := f3
  obtain ⟨f4, hf⟩ := fc_un (show (20 : Nat) < 100 from by decide) hf
  have f4 : (1 ≤ w_fi ws (n_v vs 0) 4) ∧ ((1 ≤ w_fi ws (n_v vs 0) 5) ∧ ((w_fi ws (n_v vs 0) 4 * w_fi ws (n_v vs 0) 5) ≤ 6000)) := f4
  obtain ⟨f5, hf⟩ := fc_un (show (20 : Nat) < 100 from by decide) hf
  have f5 : (v_iv (n_v vs 1) + 1) ≤ (w_fi ws (n_v vs 0) 4 * w_fi ws (n_v vs 0) 5) := f5
  have g1 : v_iv (n_v vs 3) = w_fi ws (n_v vs 0) 4 := congrArg v_iv f1
  have kz_0_4 : (-2147483648) ≤ w_fi ws (n_v vs 0) 4 ∧ w_fi ws (n_v vs 0) 4 ≤ 2147483647 := tv_rng (th_fd hD hth r0 (g := GG_9) rfl (k := 4) (t := (0, -2147483648, 2147483647, [])) rfl rfl)
  have kz_0_5 : (-2147483648) ≤ w_fi ws (n_v vs 0) 5 ∧ w_fi ws (n_v vs 0) 5 ≤ 2147483647 := tv_rng (th_fd hD hth r0 (g := GG_9) rfl (k := 5) (t := (0, -2147483648, 2147483647, [])) rfl rfl)
  have g1 := grid_bd (w := w_fi ws (n_v vs 0) 4) (h := w_fi ws (n_v vs 0) 5) (by omega) (by omega) (by omega)
  first | have g2 := nx_right (c := v_iv (n_v vs 4)) (p := v_iv (n_v vs 1)) (w := v_iv (n_v vs 3)) (W := w_fi ws (n_v vs 0) 4) (h := w_fi ws (n_v vs 0) 5) (by assumption) (by omega) (by omega) (by omega) (by omega) (by omega) | skip
  have nf0 : fc_1 (20, [7, 0], [50, 2, 0, 1004, 1005, 3, 6, 1, 2, 1, 0, 0, -1, 2, 6, 0, 2, 0, 0, 1, 0, 0, 6, 4, 2, 1, 0, 0, 1, 6, 3, 2, 1, 4, 2, 1, 5]) ws (vs) := by
    refine ⟨fun n hn => ?_, ?_⟩
    · have hn : n ∈ [7, 0] := hn
      rw [hl]
      simp only [List.mem_cons, List.not_mem_nil, or_false] at hn
      show n < 8; omega
    · show (v_iv (n_v vs 7) = (-1)) ∨ ((0 ≤ v_iv (n_v vs 7)) ∧ ((v_iv (n_v vs 7) + 1) ≤ (w_fi ws (n_v vs 0) 4 * w_fi ws (n_v vs 0) 5)))
      first | omega | grind
  refine ⟨(fun _ h => (by cases h)), [], trivial, ?_, (fun _ h => (by cases h))⟩
  rw [List.append_nil]
  exact List.forall_mem_cons.mpr ⟨⟨show (20 : Nat) < 100 from by decide, nf0⟩, (fun _ h => (by cases h))⟩
def o_Ro_next_4 : or_T := (53, 9, [(0, (2, 0, 0, [9])), (1, (0, 0, 5999, [])), (3, (0, 2, 6000, [])), (4, (0, 0, 5998, [])), (5, (0, 1, 1, [])), (6, (0, 1, 5999, [])), (7, (0, 1, 1, [])), (8, (0, 1, 6000, []))], [(1, [8, 1, 7], []), (7, [6, 3], [2]), (9, [3, 0], [4]), (1, [6, 4, 5], []), (5, [4, 1, 3], []), (20, [0], [50, 2, 0, 4, 5, 2, 7, 0, 2, 0, 1, 2, 0, 4, 2, 7, 0, 2, 0, 1, 2, 0, 5, 0, 8, 6, 3, 2, 0, 4, 2, 0, 5, 0, 6000]), (20, [1, 0], [50, 2, 0, 1004, 1005, 0, 6, 4, 2, 1, 0, 0, 1, 6, 3, 2, 1, 4, 2, 1, 5])], [(8, (0, 1, 5999, []))], [], [(20, [8, 0], [50, 2, 0, 1004, 1005, 3, 6, 1, 2, 1, 0, 0, -1, 2, 6, 0, 2, 0, 0, 1, 0, 0, 6, 4, 2, 1, 0, 0, 1, 6, 3, 2, 1, 4, 2, 1, 5])], [], [(8, 1, 1, 1), (6, 3, -4294967296, -1), (6, 4, 1, 1), (6, 3, -4294967294, 0), (4, 3, -4294967295, -1)])
theorem oo_Ro_next_4 {kA : Nat → ClassId} : or_ok kA GG o_Ro_next_4 := by
  intro A ta ws vs hD hth hl hk hds hf
  have hl : vs.length = 9 := hl
  have hk : ∀ q ∈ ([(0, (2, 0, 0, [9])), (1, (0, 0, 5999, [])), (3, (0, 2, 6000, [])), (4, (0, 0, 5998, [])), (5, (0, 1, 1, [])), (6, (0, 1, 5999, [])), (7, (0, 1, 1, [])), (8, (0, 1, 6000, []))] : List (Nat × tv_T)), tv_ok ta q.2 (n_v vs q.1) := hk
  obtain ⟨t0, hk⟩ := List.forall_mem_cons.mp hk
  have t0 : tv_ok ta (2, 0, 0, [9]) (n_v vs 0) := t0
  have r0 : ta (v_ad (n_v vs 0)) = some 9 := tv_rg t0
  obtain ⟨t1, hk⟩ := List.forall_mem_cons.mp hk
  have t1 : tv_ok ta (0, 0, 5999, []) (n_v vs 1) := t1
  have k1 : 0 ≤ v_iv (n_v vs 1) ∧ v_iv (n_v vs 1) ≤ 5999 := tv_rng t1
  obtain ⟨t3, hk⟩ := List.forall_mem_cons.mp hk
  have t3 : tv_ok ta (0, 2, 6000, []) (n_v vs 3) := t3
  have k3 : 2 ≤ v_iv (n_v vs 3) ∧ v_iv (n_v vs 3) ≤ 6000 := tv_rng t3
  obtain ⟨t4, hk⟩ := List.forall_mem_cons.mp hk
  have t4 : tv_ok ta (0, 0, 5998, []) (n_v vs 4) := t4
  have k4 : 0 ≤ v_iv (n_v vs 4) ∧ v_iv (n_v vs 4) ≤ 5998 := tv_rng t4
  obtain ⟨t5, hk⟩ := List.forall_mem_cons.mp hk
  have t5 : tv_ok ta (0, 1, 1, []) (n_v vs 5) := t5
  have k5 : 1 ≤ v_iv (n_v vs 5) ∧ v_iv (n_v vs 5) ≤ 1 := tv_rng t5
  obtain ⟨t6, hk⟩ := List.forall_mem_cons.mp hk
  have t6 : tv_ok ta (0, 1, 5999, []) (n_v vs 6) := t6
  have k6 : 1 ≤ v_iv (n_v vs 6) ∧ v_iv (n_v vs 6) ≤ 5999 := tv_rng t6
  obtain ⟨t7, hk⟩ := List.forall_mem_cons.mp hk
  have t7 : tv_ok ta (0, 1, 1, []) (n_v vs 7) := t7
  have k7 : 1 ≤ v_iv (n_v vs 7) ∧ v_iv (n_v vs 7) ≤ 1 := tv_rng t7
  obtain ⟨t8, hk⟩ := List.forall_mem_cons.mp hk
  have t8 : tv_ok ta (0, 1, 6000, []) (n_v vs 8) := t8
  have k8 : 1 ≤ v_iv (n_v vs 8) ∧ v_iv (n_v vs 8) ≤ 6000 := tv_rng t8
  have hds : ∀ q ∈ ([(8, 1, 1, 1), (6, 3, -4294967296, -1), (6, 4, 1, 1), (6, 3, -4294967294, 0), (4, 3, -4294967295, -1)] : List of_T), n_iv vs q.2.1 + q.2.2.1 ≤ n_iv vs q.1 ∧ n_iv vs q.1 ≤ n_iv vs q.2.1 + q.2.2.2 := hds
  obtain ⟨d0, hds⟩ := List.forall_mem_cons.mp hds
  have d0 : v_iv (n_v vs 1) + 1 ≤ v_iv (n_v vs 8) ∧ v_iv (n_v vs 8) ≤ v_iv (n_v vs 1) + 1 := d0
  obtain ⟨d1, hds⟩ := List.forall_mem_cons.mp hds
  have d1 : v_iv (n_v vs 3) + (-4294967296) ≤ v_iv (n_v vs 6) ∧ v_iv (n_v vs 6) ≤ v_iv (n_v vs 3) + (-1) := d1
  obtain ⟨d2, hds⟩ := List.forall_mem_cons.mp hds
  have d2 : v_iv (n_v vs 4) + 1 ≤ v_iv (n_v vs 6) ∧ v_iv (n_v vs 6) ≤ v_iv (n_v vs 4) + 1 := d2
  obtain ⟨d3, hds⟩ := List.forall_mem_cons.mp hds
  have d3 : v_iv (n_v vs 3) + (-4294967294) ≤ v_iv (n_v vs 6) ∧ v_iv (n_v vs 6) ≤ v_iv (n_v vs 3) + 0 := d3
  obtain ⟨d4, hds⟩ := List.forall_mem_cons.mp hds
  have d4 : v_iv (n_v vs 3) + (-4294967295) ≤ v_iv (n_v vs 4) ∧ v_iv (n_v vs 4) ≤ v_iv (n_v vs 3) + (-1) := d4
  have hf : fc_ok [(1, [8, 1, 7], []), (7, [6, 3], [2]), (9, [3, 0], [4]), (1, [6, 4, 5], []), (5, [4, 1, 3], []), (20, [0], [50, 2, 0, 4, 5, 2, 7, 0, 2, 0, 1, 2, 0, 4, 2, 7, 0, 2, 0, 1, 2, 0, 5, 0, 8, 6, 3, 2, 0, 4, 2, 0, 5, 0, 6000]), (20, [1, 0], [50, 2, 0, 1004, 1005, 0, 6, 4, 2, 1, 0, 0, 1, 6, 3, 2, 1, 4, 2, 1, 5])] ta ws vs := hf
  obtain ⟨f0, hf⟩ := fc_un (show (1 : Nat) < 100 from by decide) hf
  have f0 : v_iv (n_v vs 8) = v_iv (n_v vs 1) + v_iv (n_v vs 7) := f0
  obtain ⟨f1, hf⟩ := fc_un (show (7 : Nat) < 100 from by decide) hf
  have f1 : v_iv (n_v vs 6) < v_iv (n_v vs 3) := f1
  obtain ⟨f2, hf⟩ := fc_un (show (9 : Nat) < 100 from by decide) hf
  have f2 : n_v vs 3 = w_fd ws (v_ad (n_v vs 0)) 4 := f2
  obtain ⟨f3, hf⟩ := fc_un (show (1 : Nat) < 100 from by decide) hf
  have f3 : v_iv (n_v vs 6) = v_iv (n_v vs 4) + v_iv (n_v vs 5) := f3
  obtain ⟨f4, hf⟩ := fc_un (show (5 : Nat) < 100 from by decide) hf
  have f4 : v_iv (n_v vs 4) = Int.tmod (v_iv (n_v vs 1)) (v_iv (n_v vs 3)) := f4
  obtain ⟨f5, hf⟩ := fc_un (show (20 : Nat) < 100 from by decide) hf
  have f5 : (1 ≤ w_fi ws (n_v vs 0) 4) ∧ ((1 ≤ w_fi ws (n_v vs 0) 5) ∧ ((w_fi ws (n_v vs 0) 4 * w_fi ws (n_v vs 0) 5) ≤ 6000)) := f5
  obtain ⟨f6, hf⟩ := fc_un (show (20 : Nat) < 100 from by decide) hf
  have f6 : (v_iv (n_v vs 1) + 1) ≤ (w_fi ws (n_v vs 0) 4 * w_fi ws (n_v vs 0) 5) := f6
  have g2 : v_iv (n_v vs 3) = w_fi ws (n_v vs 0) 4 := congrArg v_iv f2
  have kz_0_4 : (-2147483648) ≤ w_fi ws (n_v vs 0) 4 ∧ w_fi ws (n_v vs 0) 4 ≤ 2147483647 := tv_rng (th_fd hD hth r0 (g := GG_9) rfl (k := 4) (t := (0, -2147483648, 2147483647, [])) rfl rfl)
  have kz_0_5 : (-2147483648) ≤ w_fi ws (n_v vs 0) 5 ∧ w_fi ws (n_v vs 0) 5 ≤ 2147483647 := tv_rng (th_fd hD hth r0 (g := GG_9) rfl (k := 5) (t := (0, -2147483648, 2147483647, [])) rfl rfl)
  have g1 := grid_bd (w := w_fi ws (n_v vs 0) 4) (h := w_fi ws (n_v vs 0) 5) (by omega) (by omega) (by omega)
  first | have g2 := nx_right (c := v_iv (n_v vs 4)) (p := v_iv (n_v vs 1)) (w := v_iv (n_v vs 3)) (W := w_fi ws (n_v vs 0) 4) (h := w_fi ws (n_v vs 0) 5) (by assumption) (by omega) (by omega) (by omega) (by omega) (by omega) | skip
  have nf0 : fc_1 (20, [8, 0], [50, 2, 0, 1004, 1005, 3, 6, 1, 2, 1, 0, 0, -1, 2, 6, 0, 2, 0, 0, 1, 0, 0, 6, 4, 2, 1, 0, 0, 1, 6, 3, 2, 1, 4, 2, 1, 5]) ws (vs) := by
    refine ⟨fun n hn => ?_, ?_⟩
    · have hn : n ∈ [8, 0] := hn
      rw [hl]
      simp only [List.mem_cons, List.not_mem_nil, or_false] at hn
      show n < 9; omega
    · show (v_iv (n_v vs 8) = (-1)) ∨ ((0 ≤ v_iv (n_v vs 8)) ∧ ((v_iv (n_v vs 8) + 1) ≤ (w_fi ws (n_v vs 0) 4 * w_fi ws (n_v vs 0) 5)))
      first | omega | grind
  have rf8 : tv_ok ta (0, 1, 5999, []) (n_v vs 8) := tv_in t8 (by first | omega | grind) (by first | omega | grind)
  refine ⟨List.forall_mem_cons.mpr ⟨rf8, (fun _ h => (by cases h))⟩, [], trivial, ?_, (fun _ h => (by cases h))⟩
  rw [List.append_nil]
  exact List.forall_mem_cons.mpr ⟨⟨show (20 : Nat) < 100 from by decide, nf0⟩, (fun _ h => (by cases h))⟩
def o_Ro_next_5 : or_T := (68, 7, [(0, (2, 0, 0, [9])), (1, (0, 0, 5999, [])), (3, (0, 1, 6000, [])), (4, (0, 0, 5999, [])), (5, (0, 1, 11999, [])), (6, (0, -2147483648, 2147483647, []))], [(9, [6, 0], [5]), (9, [3, 0], [4]), (1, [5, 1, 3], []), (5, [4, 1, 3], []), (20, [0], [50, 2, 0, 4, 5, 2, 7, 0, 2, 0, 1, 2, 0, 4, 2, 7, 0, 2, 0, 1, 2, 0, 5, 0, 8, 6, 3, 2, 0, 4, 2, 0, 5, 0, 6000]), (20, [1, 0], [50, 2, 0, 1004, 1005, 0, 6, 4, 2, 1, 0, 0, 1, 6, 3, 2, 1, 4, 2, 1, 5])], [(6, (0, 1, 6000, []))], [], [], [], [(5, 3, 0, 5999), (5, 1, 1, 6000), (4, 3, -4294967295, -1)])
theorem oo_Ro_next_5 {kA : Nat → ClassId} : or_ok kA GG o_Ro_next_5 := by
  intro A ta ws vs hD hth hl hk hds hf
  have hl : vs.length = 7 := hl
  have hk : ∀ q ∈ ([(0, (2, 0, 0, [9])), (1, (0, 0, 5999, [])), (3, (0, 1, 6000, [])), (4, (0, 0, 5999, [])), (5, (0, 1, 11999, [])), (6, (0, -2147483648, 2147483647, []))] : List (Nat × tv_T)), tv_ok ta q.2 (n_v vs q.1) := hk
  obtain ⟨t0, hk⟩ := List.forall_mem_cons.mp hk
  have t0 : tv_ok ta (2, 0, 0, [9]) (n_v vs 0) := t0
  have r0 : ta (v_ad (n_v vs 0)) = some 9 := tv_rg t0
  obtain ⟨t1, hk⟩ := List.forall_mem_cons.mp hk
  have t1 : tv_ok ta (0, 0, 5999, []) (n_v vs 1) := t1
  have k1 : 0 ≤ v_iv (n_v vs 1) ∧ v_iv (n_v vs 1) ≤ 5999 := tv_rng t1
  obtain ⟨t3, hk⟩ := List.forall_mem_cons.mp hk
  have t3 : tv_ok ta (0, 1, 6000, []) (n_v vs 3) := t3
  have k3 : 1 ≤ v_iv (n_v vs 3) ∧ v_iv (n_v vs 3) ≤ 6000 := tv_rng t3
  obtain ⟨t4, hk⟩ := List.forall_mem_cons.mp hk
  have t4 : tv_ok ta (0, 0, 5999, []) (n_v vs 4) := t4
  have k4 : 0 ≤ v_iv (n_v vs 4) ∧ v_iv (n_v vs 4) ≤ 5999 := tv_rng t4
  obtain ⟨t5, hk⟩ := List.forall_mem_cons.mp hk
  have t5 : tv_ok ta (0, 1, 11999, []) (n_v vs 5) := t5
  have k5 : 1 ≤ v_iv (n_v vs 5) ∧ v_iv (n_v vs 5) ≤ 11999 := tv_rng t5
  obtain ⟨t6, hk⟩ := List.forall_mem_cons.mp hk
  have t6 : tv_ok ta (0, -2147483648, 2147483647, []) (n_v vs 6) := t6
  have k6 : (-2147483648) ≤ v_iv (n_v vs 6) ∧ v_iv (n_v vs 6) ≤ 2147483647 := tv_rng t6
  have hds : ∀ q ∈ ([(5, 3, 0, 5999), (5, 1, 1, 6000), (4, 3, -4294967295, -1)] : List of_T), n_iv vs q.2.1 + q.2.2.1 ≤ n_iv vs q.1 ∧ n_iv vs q.1 ≤ n_iv vs q.2.1 + q.2.2.2 := hds
  obtain ⟨d0, hds⟩ := List.forall_mem_cons.mp hds
  have d0 : v_iv (n_v vs 3) + 0 ≤ v_iv (n_v vs 5) ∧ v_iv (n_v vs 5) ≤ v_iv (n_v vs 3) + 5999 := d0
  obtain ⟨d1, hds⟩ := List.forall_mem_cons.mp hds
  have d1 : v_iv (n_v vs 1) + 1 ≤ v_iv (n_v vs 5) ∧ v_iv (n_v vs 5) ≤ v_iv (n_v vs 1) + 6000 := d1
  obtain ⟨d2, hds⟩ := List.forall_mem_cons.mp hds
  have d2 : v_iv (n_v vs 3) + (-4294967295) ≤ v_iv (n_v vs 4) ∧ v_iv (n_v vs 4) ≤ v_iv (n_v vs 3) + (-1) := d2
  have hf : fc_ok [(9, [6, 0], [5]), (9, [3, 0], [4]), (1, [5, 1, 3], []), (5, [4, 1, 3], []), (20, [0], [50, 2, 0, 4, 5, 2, 7, 0, 2, 0, 1, 2, 0, 4, 2, 7, 0, 2, 0, 1, 2, 0, 5, 0, 8, 6, 3, 2, 0, 4, 2, 0, 5, 0, 6000]), (20, [1, 0], [50, 2, 0, 1004, 1005, 0, 6, 4, 2, 1, 0, 0, 1, 6, 3, 2, 1, 4, 2, 1, 5])] ta ws vs := hf
  obtain ⟨f0, hf⟩ := fc_un (show (9 : Nat) < 100 from by decide) hf
  have f0 : n_v vs 6 = w_fd ws (v_ad (n_v vs 0)) 5 := f0
  obtain ⟨f1, hf⟩ := fc_un (show (9 : Nat) < 100 from by decide) hf
  have f1 : n_v vs 3 = w_fd ws (v_ad (n_v vs 0)) 4 := f1
  obtain ⟨f2, hf⟩ := fc_un (show (1 : Nat) < 100 from by decide) hf
  have f2 : v_iv (n_v vs 5) = v_iv (n_v vs 1) + v_iv (n_v vs 3) := f2
  obtain ⟨f3, hf⟩ := fc_un (show (5 : Nat) < 100 from by decide) hf
  have f3 : v_iv (n_v vs 4) = Int.tmod (v_iv (n_v vs 1)) (v_iv (n_v vs 3)) := f3
  obtain ⟨f4, hf⟩ := fc_un (show (20 : Nat) < 100 from by decide) hf
  have f4 : (1 ≤ w_fi ws (n_v vs 0) 4) ∧ ((1 ≤ w_fi ws (n_v vs 0) 5) ∧ ((w_fi ws (n_v vs 0) 4 * w_fi ws (n_v vs 0) 5) ≤ 6000)) := f4
  obtain ⟨f5, hf⟩ := fc_un (show (20 : Nat) < 100 from by decide) hf
  have f5 : (v_iv (n_v vs 1) + 1) ≤ (w_fi ws (n_v vs 0) 4 * w_fi ws (n_v vs 0) 5) := f5
  have g0 : v_iv (n_v vs 6) = w_fi ws (n_v vs 0) 5 := congrArg v_iv f0
  have g1 : v_iv (n_v vs 3) = w_fi ws (n_v vs 0) 4 := congrArg v_iv f1
  have kz_0_4 : (-2147483648) ≤ w_fi ws (n_v vs 0) 4 ∧ w_fi ws (n_v vs 0) 4 ≤ 2147483647 := tv_rng (th_fd hD hth r0 (g := GG_9) rfl (k := 4) (t := (0, -2147483648, 2147483647, [])) rfl rfl)
  have kz_0_5 : (-2147483648) ≤ w_fi ws (n_v vs 0) 5 ∧ w_fi ws (n_v vs 0) 5 ≤ 2147483647 := tv_rng (th_fd hD hth r0 (g := GG_9) rfl (k := 5) (t := (0, -2147483648, 2147483647, [])) rfl rfl)
  have g1 := grid_bd (w := w_fi ws (n_v vs 0) 4) (h := w_fi ws (n_v vs 0) 5) (by omega) (by omega) (by omega)
  have rf6 : tv_ok ta (0, 1, 6000, []) (n_v vs 6) := tv_in t6 (by first | omega | grind) (by first | omega | grind)
  refine ⟨List.forall_mem_cons.mpr ⟨rf6, (fun _ h => (by cases h))⟩, [], trivial, ?_, (fun _ h => (by cases h))⟩
  rw [List.append_nil]
  exact (fun _ h => (by cases h))
def o_Ro_next_6 : or_T := (69, 8, [(0, (2, 0, 0, [9])), (1, (0, 0, 5999, [])), (3, (0, 1, 6000, [])), (4, (0, 0, 5999, [])), (5, (0, 1, 11999, [])), (6, (0, 1, 6000, [])), (7, (0, 1, 36000000, []))], [(3, [7, 3, 6], []), (9, [6, 0], [5]), (9, [3, 0], [4]), (1, [5, 1, 3], []), (5, [4, 1, 3], []), (20, [0], [50, 2, 0, 4, 5, 2, 7, 0, 2, 0, 1, 2, 0, 4, 2, 7, 0, 2, 0, 1, 2, 0, 5, 0, 8, 6, 3, 2, 0, 4, 2, 0, 5, 0, 6000]), (20, [1, 0], [50, 2, 0, 1004, 1005, 0, 6, 4, 2, 1, 0, 0, 1, 6, 3, 2, 1, 4, 2, 1, 5])], [], [], [(20, [7, 0], [50, 2, 0, 1004, 1005, 1, 2, 1, 0, 6, 3, 2, 1, 4, 2, 1, 5])], [], [(5, 3, 0, 5999), (5, 1, 1, 6000), (4, 3, -4294967295, -1)])
theorem oo_Ro_next_6 {kA : Nat → ClassId} : or_ok kA GG o_Ro_next_6 := by
  intro A ta ws vs hD hth hl hk hds hf
  have hl : vs.length = 8 := hl
  have hk : ∀ q ∈ ([(0, (2, 0, 0, [9])), (1, (0, 0, 5999, [])), (3, (0, 1, 6000, [])), (4, (0, 0, 5999, [])), (5, (0, 1, 11999, [])), (6, (0, 1, 6000, [])), (7, (0, 1, 36000000, []))] : List (Nat × tv_T)), tv_ok ta q.2 (n_v vs q.1) := hk
  obtain ⟨t0, hk⟩ := List.forall_mem_cons.mp hk
  have t0 : tv_ok ta (2, 0, 0, [9]) (n_v vs 0) := t0
  have r0 : ta (v_ad (n_v vs 0)) = some 9 := tv_rg t0
  obtain ⟨t1, hk⟩ := List.forall_mem_cons.mp hk
  have t1 : tv_ok ta (0, 0, 5999, []) (n_v vs 1) := t1
  have k1 : 0 ≤ v_iv (n_v vs 1) ∧ v_iv (n_v vs 1) ≤ 5999 := tv_rng t1
  obtain ⟨t3, hk⟩ := List.forall_mem_cons.mp hk
  have t3 : tv_ok ta (0, 1, 6000, []) (n_v vs 3) := t3
  have k3 : 1 ≤ v_iv (n_v vs 3) ∧ v_iv (n_v vs 3) ≤ 6000 := tv_rng t3
  obtain ⟨t4, hk⟩ := List.forall_mem_cons.mp hk
  have t4 : tv_ok ta (0, 0, 5999, []) (n_v vs 4) := t4
  have k4 : 0 ≤ v_iv (n_v vs 4) ∧ v_iv (n_v vs 4) ≤ 5999 := tv_rng t4
  obtain ⟨t5, hk⟩ := List.forall_mem_cons.mp hk
  have t5 : tv_ok ta (0, 1, 11999, []) (n_v vs 5) := t5
  have k5 : 1 ≤ v_iv (n_v vs 5) ∧ v_iv (n_v vs 5) ≤ 11999 := tv_rng t5
  obtain ⟨t6, hk⟩ := List.forall_mem_cons.mp hk
  have t6 : tv_ok ta (0, 1, 6000, []) (n_v vs 6) := t6
  have k6 : 1 ≤ v_iv (n_v vs 6) ∧ v_iv (n_v vs 6) ≤ 6000 := tv_rng t6
  obtain ⟨t7, hk⟩ := List.forall_mem_cons.mp hk
  have t7 : tv_ok ta (0, 1, 36000000, []) (n_v vs 7) := t7
  have k7 : 1 ≤ v_iv (n_v vs 7) ∧ v_iv (n_v vs 7) ≤ 36000000 := tv_rng t7
  have hds : ∀ q ∈ ([(5, 3, 0, 5999), (5, 1, 1, 6000), (4, 3, -4294967295, -1)] : List of_T), n_iv vs q.2.1 + q.2.2.1 ≤ n_iv vs q.1 ∧ n_iv vs q.1 ≤ n_iv vs q.2.1 + q.2.2.2 := hds
  obtain ⟨d0, hds⟩ := List.forall_mem_cons.mp hds
  have d0 : v_iv (n_v vs 3) + 0 ≤ v_iv (n_v vs 5) ∧ v_iv (n_v vs 5) ≤ v_iv (n_v vs 3) + 5999 := d0
  obtain ⟨d1, hds⟩ := List.forall_mem_cons.mp hds
  have d1 : v_iv (n_v vs 1) + 1 ≤ v_iv (n_v vs 5) ∧ v_iv (n_v vs 5) ≤ v_iv (n_v vs 1) + 6000 := d1
  obtain ⟨d2, hds⟩ := List.forall_mem_cons.mp hds
  have d2 : v_iv (n_v vs 3) + (-4294967295) ≤ v_iv (n_v vs 4) ∧ v_iv (n_v vs 4) ≤ v_iv (n_v vs 3) + (-1) := d2
  have hf : fc_ok [(3, [7, 3, 6], []), (9, [6, 0], [5]), (9, [3, 0], [4]), (1, [5, 1, 3], []), (5, [4, 1, 3], []), (20, [0], [50, 2, 0, 4, 5, 2, 7, 0, 2, 0, 1, 2, 0, 4, 2, 7, 0, 2, 0, 1, 2, 0, 5, 0, 8, 6, 3, 2, 0, 4, 2, 0, 5, 0, 6000]), (20, [1, 0], [50, 2, 0, 1004, 1005, 0, 6, 4, 2, 1, 0, 0, 1, 6, 3, 2, 1, 4, 2, 1, 5])] ta ws vs := hf
  obtain ⟨f0, hf⟩ := fc_un (show (3 : Nat) < 100 from by decide) hf
  have f0 : v_iv (n_v vs 7) = v_iv (n_v vs 3) * v_iv (n_v vs 6) := f0
  obtain ⟨f1, hf⟩ := fc_un (show (9 : Nat) < 100 from by decide) hf
  have f1 : n_v vs 6 = w_fd ws (v_ad (n_v vs 0)) 5 := f1
  obtain ⟨f2, hf⟩ := fc_un (show (9 : Nat) < 100 from by decide) hf
  have f2 : n_v vs 3 = w_fd ws (v_ad (n_v vs 0)) 4 := f2
  obtain ⟨f3, hf⟩ := fc_un (show (1 : Nat) < 100 from by decide) hf
  have f3 : v_iv (n_v vs 5) = v_iv (n_v vs 1) + v_iv (n_v vs 3) := f3
  obtain ⟨f4, hf⟩ := fc_un (show (5 : Nat) < 100 from by decide) hf
  have f4 : v_iv (n_v vs 4) = Int.tmod (v_iv (n_v vs 1)) (v_iv (n_v vs 3)) := f4
  obtain ⟨f5, hf⟩ := fc_un (show (20 : Nat) < 100 from by decide) hf
  have f5 : (1 ≤ w_fi ws (n_v vs 0) 4) ∧ ((1 ≤ w_fi ws (n_v vs 0) 5) ∧ ((w_fi ws (n_v vs 0) 4 * w_fi ws (n_v vs 0) 5) ≤ 6000)) := f5
  obtain ⟨f6, hf⟩ := fc_un (show (20 : Nat) < 100 from by decide) hf
  have f6 : (v_iv (n_v vs 1) + 1) ≤ (w_fi ws (n_v vs 0) 4 * w_fi ws (n_v vs 0) 5) := f6
  have g1 : v_iv (n_v vs 6) = w_fi ws (n_v vs 0) 5 := congrArg v_iv f1
  have g2 : v_iv (n_v vs 3) = w_fi ws (n_v vs 0) 4 := congrArg v_iv f2
  have kz_0_4 : (-2147483648) ≤ w_fi ws (n_v vs 0) 4 ∧ w_fi ws (n_v vs 0) 4 ≤ 2147483647 := tv_rng (th_fd hD hth r0 (g := GG_9) rfl (k := 4) (t := (0, -2147483648, 2147483647, [])) rfl rfl)
  have kz_0_5 : (-2147483648) ≤ w_fi ws (n_v vs 0) 5 ∧ w_fi ws (n_v vs 0) 5 ≤ 2147483647 := tv_rng (th_fd hD hth r0 (g := GG_9) rfl (k := 5) (t := (0, -2147483648, 2147483647, [])) rfl rfl)
  have g1 := grid_bd (w := w_fi ws (n_v vs 0) 4) (h := w_fi ws (n_v vs 0) 5) (by omega) (by omega) (by omega)
  have nf0 : fc_1 (20, [7, 0], [50, 2, 0, 1004, 1005, 1, 2, 1, 0, 6, 3, 2, 1, 4, 2, 1, 5]) ws (vs) := by
    refine ⟨fun n hn => ?_, ?_⟩
    · have hn : n ∈ [7, 0] := hn
      rw [hl]
      simp only [List.mem_cons, List.not_mem_nil, or_false] at hn
      show n < 8; omega
    · show v_iv (n_v vs 7) = (w_fi ws (n_v vs 0) 4 * w_fi ws (n_v vs 0) 5)
      first | omega | grind
  refine ⟨(fun _ h => (by cases h)), [], trivial, ?_, (fun _ h => (by cases h))⟩
  rw [List.append_nil]
  exact List.forall_mem_cons.mpr ⟨⟨show (20 : Nat) < 100 from by decide, nf0⟩, (fun _ h => (by cases h))⟩
def o_Ro_next_7 : or_T := (82, 9, [(0, (2, 0, 0, [9])), (1, (0, 0, 5999, [])), (3, (0, 1, 6000, [])), (4, (0, 0, 5999, [])), (5, (0, 1, 11999, [])), (6, (0, 1, 6000, [])), (7, (0, 1, 11999, [])), (8, (0, -1, -1, []))], [(7, [5, 7], [3]), (20, [7, 0], [50, 2, 0, 1004, 1005, 1, 2, 1, 0, 6, 3, 2, 1, 4, 2, 1, 5]), (3, [7, 3, 6], []), (9, [6, 0], [5]), (9, [3, 0], [4]), (1, [5, 1, 3], []), (5, [4, 1, 3], []), (20, [0], [50, 2, 0, 4, 5, 2, 7, 0, 2, 0, 1, 2, 0, 4, 2, 7, 0, 2, 0, 1, 2, 0, 5, 0, 8, 6, 3, 2, 0, 4, 2, 0, 5, 0, 6000]), (20, [1, 0], [50, 2, 0, 1004, 1005, 0, 6, 4, 2, 1, 0, 0, 1, 6, 3, 2, 1, 4, 2, 1, 5])], [], [], [(20, [8, 0], [50, 2, 0, 1004, 1005, 3, 6, 1, 2, 1, 0, 0, -1, 2, 6, 0, 2, 0, 0, 1, 0, 0, 6, 4, 2, 1, 0, 0, 1, 6, 3, 2, 1, 4, 2, 1, 5])], [], [(5, 7, 0, 4294967296), (5, 3, 0, 5999), (5, 1, 1, 6000), (4, 3, -4294967295, -1)])
theorem oo_Ro_next_7 {kA : Nat → ClassId} : or_ok kA GG o_Ro_next_7 := by
  intro A ta ws vs hD hth hl hk hds hf
  have hl : vs.length = 9 := hl
  have hk : ∀ q ∈ ([(0, (2, 0, 0, [9])), (1, (0, 0, 5999, [])), (3, (0, 1, 6000, [])), (4, (0, 0, 5999, [])), (5, (0, 1, 11999, [])), (6, (0, 1, 6000, [])), (7, (0, 1, 11999, [])), (8, (0, -1, -1, []))] : List (Nat × tv_T)), tv_ok ta q.2 (n_v vs q.1) := hk
  obtain ⟨t0, hk⟩ := List.forall_mem_cons.mp hk
  have t0 : tv_ok ta (2, 0, 0, [9]) (n_v vs 0) := t0
  have r0 : ta (v_ad (n_v vs 0)) = some 9 := tv_rg t0
  obtain ⟨t1, hk⟩ := List.forall_mem_cons.mp hk
  have t1 : tv_ok ta (0, 0, 5999, []) (n_v vs 1) := t1
  have k1 : 0 ≤ v_iv (n_v vs 1) ∧ v_iv (n_v vs 1) ≤ 5999 := tv_rng t1
  obtain ⟨t3, hk⟩ := List.forall_mem_cons.mp hk
  have t3 : tv_ok ta (0, 1, 6000, []) (n_v vs 3) := t3
  have k3 : 1 ≤ v_iv (n_v vs 3) ∧ v_iv (n_v vs 3) ≤ 6000 := tv_rng t3
  obtain ⟨t4, hk⟩ := List.forall_mem_cons.mp hk
  have t4 : tv_ok ta (0, 0, 5999, []) (n_v vs 4) := t4
  have k4 : 0 ≤ v_iv (n_v vs 4) ∧ v_iv (n_v vs 4) ≤ 5999 := tv_rng t4
  obtain ⟨t5, hk⟩ := List.forall_mem_cons.mp hk
  have t5 : tv_ok ta (0, 1, 11999, []) (n_v vs 5) := t5
  have k5 : 1 ≤ v_iv (n_v vs 5) ∧ v_iv (n_v vs 5) ≤ 11999 := tv_rng t5
  obtain ⟨t6, hk⟩ := List.forall_mem_cons.mp hk
  have t6 : tv_ok ta (0, 1, 6000, []) (n_v vs 6) := t6
  have k6 : 1 ≤ v_iv (n_v vs 6) ∧ v_iv (n_v vs 6) ≤ 6000 := tv_rng t6
  obtain ⟨t7, hk⟩ := List.forall_mem_cons.mp hk
  have t7 : tv_ok ta (0, 1, 11999, []) (n_v vs 7) := t7
  have k7 : 1 ≤ v_iv (n_v vs 7) ∧ v_iv (n_v vs 7) ≤ 11999 := tv_rng t7
  obtain ⟨t8, hk⟩ := List.forall_mem_cons.mp hk
  have t8 : tv_ok ta (0, -1, -1, []) (n_v vs 8) := t8
  have k8 : (-1) ≤ v_iv (n_v vs 8) ∧ v_iv (n_v vs 8) ≤ (-1) := tv_rng t8
  have hds : ∀ q ∈ ([(5, 7, 0, 4294967296), (5, 3, 0, 5999), (5, 1, 1, 6000), (4, 3, -4294967295, -1)] : List of_T), n_iv vs q.2.1 + q.2.2.1 ≤ n_iv vs q.1 ∧ n_iv vs q.1 ≤ n_iv vs q.2.1 + q.2.2.2 := hds
  obtain ⟨d0, hds⟩ := List.forall_mem_cons.mp hds
  have d0 : v_iv (n_v vs 7) + 0 ≤ v_iv (n_v vs 5) ∧ v_iv (n_v vs 5) ≤ v_iv (n_v vs 7) + 4294967296 := d0
  obtain ⟨d1, hds⟩ := List.forall_mem_cons.mp hds
  have d1 : v_iv (n_v vs 3) + 0 ≤ v_iv (n_v vs 5) ∧ v_iv (n_v vs 5) ≤ v_iv (n_v vs 3) + 5999 := d1
  obtain ⟨d2, hds⟩ := List.forall_mem_cons.mp hds
  have d2 : v_iv (n_v vs 1) + 1 ≤ v_iv (n_v vs 5) ∧ v_iv (n_v vs 5) ≤ v_iv (n_v vs 1) + 6000 := d2
  obtain ⟨d3, hds⟩ := List.forall_mem_cons.mp hds
  have d3 : v_iv (n_v vs 3) + (-4294967295) ≤ v_iv (n_v vs 4) ∧ v_iv (n_v vs 4) ≤ v_iv (n_v vs 3) + (-1) := d3
  have hf : fc_ok [(7, [5, 7], [3]), (20, [7, 0], [50, 2, 0, 1004, 1005, 1, 2, 1, 0, 6, 3, 2, 1, 4, 2, 1, 5]), (3, [7, 3, 6], []), (9, [6, 0], [5]), (9, [3, 0], [4]), (1, [5, 1, 3], []), (5, [4, 1, 3], []), (20, [0], [50, 2, 0, 4, 5, 2, 7, 0, 2, 0, 1, 2, 0, 4, 2, 7, 0, 2, 0, 1, 2, 0, 5, 0, 8, 6, 3, 2, 0, 4, 2, 0, 5, 0, 6000]), (20, [1, 0], [50, 2, 0, 1004, 1005, 0, 6, 4, 2, 1, 0, 0, 1, 6, 3, 2, 1, 4, 2, 1, 5])] ta ws vs := hf
  obtain ⟨f0, hf⟩ := fc_un (show (7 : Nat) < 100 from by decide) hf
  have f0 : v_iv (n_v vs 7) ≤ v_iv (n_v vs 5) := f0
  obtain ⟨f1, hf⟩ := fc_un (show (20 : Nat) < 100 from by decide) hf
  have f1 : v_iv (n_v vs 7) = (w_fi ws (n_v vs 0) 4 * w_fi ws (n_v vs 0) 5) := f1
  obtain ⟨f2, hf⟩ := fc_un (show (3 : Nat) < 100 from by decide) hf
  have f2 : v_iv (n_v vs 7) = v_iv (n_v vs 3) * v_iv (n_v vs 6) := f2
  obtain ⟨f3, hf⟩ := fc_un (show (9 : Nat) < 100 from by decide) hf
  have f3 : n_v vs 6 = w_fd ws (v_ad (n_v vs 0)) 5 := f3
  obtain ⟨f4, hf⟩ := fc_un (show (9 : Nat) < 100 from by decide) hf
  have f4 : n_v vs 3 = w_fd ws (v_ad (n_v vs 0)) 4 := f4
  obtain ⟨f5, hf⟩ := fc_un (show (1 : Nat) < 100 from by decide) hf
  have f5 : v_iv (n_v vs 5) = v_iv (n_v vs 1) + v_iv (n_v vs 3) := f5
  obtain ⟨f6, hf⟩ := fc_un (show (5 : Nat) < 100 from by decide) hf
  have f6 : v_iv (n_v vs 4) = Int.tmod (v_iv (n_v vs 1)) (v_iv (n_v vs 3)) := f6
  obtain ⟨f7, hf⟩ := fc_un (show (20 : Nat) < 100 from by decide) hf
  have f7 : (1 ≤ w_fi ws (n_v vs 0) 4) ∧ ((1 ≤ w_fi ws (n_v vs 0) 5) ∧ ((w_fi ws (n_v vs 0) 4 * w_fi ws (n_v vs 0) 5) ≤ 6000)) := f7
  obtain ⟨f8, hf⟩ := fc_un (show (20 : Nat) < 100 from by decide) hf
  have f8 : (v_iv (n_v vs 1) + 1) ≤ (w_fi ws (n_v vs 0) 4 * w_fi ws (n_v vs 0) 5) := f8
  have g3 : v_iv (n_v vs 6) = w_fi ws (n_v vs 0) 5 := congrArg v_iv f3
  have g4 : v_iv (n_v vs 3) = w_fi ws (n_v vs 0) 4 := congrArg v_iv f4
  have kz_0_4 : (-2147483648) ≤ w_fi ws (n_v vs 0) 4 ∧ w_fi ws (n_v vs 0) 4 ≤ 2147483647 := tv_rng (th_fd hD hth r0 (g := GG_9) rfl (k := 4) (t := (0, -2147483648, 2147483647, [])) rfl rfl)
  have kz_0_5 : (-2147483648) ≤ w_fi ws (n_v vs 0) 5 ∧ w_fi ws (n_v vs 0) 5 ≤ 2147483647 := tv_rng (th_fd hD hth r0 (g := GG_9) rfl (k := 5) (t := (0, -2147483648, 2147483647, [])) rfl rfl)
  have g1 := grid_bd (w := w_fi ws (n_v vs 0) 4) (h := w_fi ws (n_v vs 0) 5) (by omega) (by omega) (by omega)
  have nf0 : fc_1 (20, [8, 0], [50, 2, 0, 1004, 1005, 3, 6, 1, 2, 1, 0, 0, -1, 2, 6, 0, 2, 0, 0, 1, 0, 0, 6, 4, 2, 1, 0, 0, 1, 6, 3, 2, 1, 4, 2, 1, 5]) ws (vs) := by
    refine ⟨fun n hn => ?_, ?_⟩
    · have hn : n ∈ [8, 0] := hn
      rw [hl]
      simp only [List.mem_cons, List.not_mem_nil, or_false] at hn
      show n < 9; omega
    · show (v_iv (n_v vs 8) = (-1)) ∨ ((0 ≤ v_iv (n_v vs 8)) ∧ ((v_iv (n_v vs 8) + 1) ≤ (w_fi ws (n_v vs 0) 4 * w_fi ws (n_v vs 0) 5)))
      first | omega | grind
  refine ⟨(fun _ h => (by cases h)), [], trivial, ?_, (fun _ h => (by cases h))⟩
  rw [List.append_nil]
  exact List.forall_mem_cons.mpr ⟨⟨show (20 : Nat) < 100 from by decide, nf0⟩, (fun _ h => (by cases h))⟩
def o_Ro_next_8 : or_T := (82, 9, [(0, (2, 0, 0, [9])), (1, (0, 0, 5999, [])), (3, (0, 1, 6000, [])), (4, (0, 0, 5999, [])), (5, (0, 1, 11999, [])), (6, (0, 1, 6000, [])), (7, (0, 2, 36000000, [])), (8, (0, 1, 11999, []))], [(1, [8, 1, 3], []), (9, [3, 0], [4]), (7, [5, 7], [2]), (20, [7, 0], [50, 2, 0, 1004, 1005, 1, 2, 1, 0, 6, 3, 2, 1, 4, 2, 1, 5]), (3, [7, 3, 6], []), (9, [6, 0], [5]), (1, [5, 1, 3], []), (5, [4, 1, 3], []), (20, [0], [50, 2, 0, 4, 5, 2, 7, 0, 2, 0, 1, 2, 0, 4, 2, 7, 0, 2, 0, 1, 2, 0, 5, 0, 8, 6, 3, 2, 0, 4, 2, 0, 5, 0, 6000]), (20, [1, 0], [50, 2, 0, 1004, 1005, 0, 6, 4, 2, 1, 0, 0, 1, 6, 3, 2, 1, 4, 2, 1, 5])], [(8, (0, 1, 5999, []))], [], [(20, [8, 0], [50, 2, 0, 1004, 1005, 3, 6, 1, 2, 1, 0, 0, -1, 2, 6, 0, 2, 0, 0, 1, 0, 0, 6, 4, 2, 1, 0, 0, 1, 6, 3, 2, 1, 4, 2, 1, 5])], [], [(8, 3, 0, 5999), (8, 1, 1, 6000), (5, 7, -4294967296, -1), (5, 3, 0, 5999), (5, 1, 1, 6000), (4, 3, -4294967295, -1)])
theorem oo_Ro_next_8 {kA : Nat → ClassId} : or_ok kA GG o_Ro_next_8 := by
  intro A ta ws vs hD hth hl hk hds hf
  have hl : vs.length = 9 := hl
  have hk : ∀ q ∈ ([(0, (2, 0, 0, [9])), (1, (0, 0, 5999, [])), (3, (0, 1, 6000, [])), (4, (0, 0, 5999, [])), (5, (0, 1, 11999, [])), (6, (0, 1, 6000, [])), (7, (0, 2, 36000000, [])), (8, (0, 1, 11999, []))] : List (Nat × tv_T)), tv_ok ta q.2 (n_v vs q.1) := hk
  obtain ⟨t0, hk⟩ := List.forall_mem_cons.mp hk
  have t0 : tv_ok ta (2, 0, 0, [9]) (n_v vs 0) := t0
  have r0 : ta (v_ad (n_v vs 0)) = some 9 := tv_rg t0
  obtain ⟨t1, hk⟩ := List.forall_mem_cons.mp hk
  have t1 : tv_ok ta (0, 0, 5999, []) (n_v vs 1) := t1
  have k1 : 0 ≤ v_iv (n_v vs 1) ∧ v_iv (n_v vs 1) ≤ 5999 := tv_rng t1
  obtain ⟨t3, hk⟩ := List.forall_mem_cons.mp hk
  have t3 : tv_ok ta (0, 1, 6000, []) (n_v vs 3) := t3
  have k3 : 1 ≤ v_iv (n_v vs 3) ∧ v_iv (n_v vs 3) ≤ 6000 := tv_rng t3
  obtain ⟨t4, hk⟩ := List.forall_mem_cons.mp hk
  have t4 : tv_ok ta (0, 0, 5999, []) (n_v vs 4) := t4
  have k4 : 0 ≤ v_iv (n_v vs 4) ∧ v_iv (n_v vs 4) ≤ 5999 := tv_rng t4
  obtain ⟨t5, hk⟩ := List.forall_mem_cons.mp hk
  have t5 : tv_ok ta (0, 1, 11999, []) (n_v vs 5) := t5
  have k5 : 1 ≤ v_iv (n_v vs 5) ∧ v_iv (n_v vs 5) ≤ 11999 := tv_rng t5
  obtain ⟨t6, hk⟩ := List.forall_mem_cons.mp hk
  have t6 : tv_ok ta (0, 1, 6000, []) (n_v vs 6) := t6
  have k6 : 1 ≤ v_iv (n_v vs 6) ∧ v_iv (n_v vs 6) ≤ 6000 := tv_rng t6
  obtain ⟨t7, hk⟩ := List.forall_mem_cons.mp hk
  have t7 : tv_ok ta (0, 2, 36000000, []) (n_v vs 7) := t7
  have k7 : 2 ≤ v_iv (n_v vs 7) ∧ v_iv (n_v vs 7) ≤ 36000000 := tv_rng t7
  obtain ⟨t8, hk⟩ := List.forall_mem_cons.mp hk
  have t8 : tv_ok ta (0, 1, 11999, []) (n_v vs 8) := t8
  have k8 : 1 ≤ v_iv (n_v vs 8) ∧ v_iv (n_v vs 8) ≤ 11999 := tv_rng t8
  have hds : ∀ q ∈ ([(8, 3, 0, 5999), (8, 1, 1, 6000), (5, 7, -4294967296, -1), (5, 3, 0, 5999), (5, 1, 1, 6000), (4, 3, -4294967295, -1)] : List of_T), n_iv vs q.2.1 + q.2.2.1 ≤ n_iv vs q.1 ∧ n_iv vs q.1 ≤ n_iv vs q.2.1 + q.2.2.2 := hds
  obtain ⟨d0, hds⟩ := List.forall_mem_cons.mp hds
  have d0 : v_iv (n_v vs 3) + 0 ≤ v_iv (n_v vs 8) ∧ v_iv (n_v vs 8) ≤ v_iv (n_v vs 3) + 5999 := d0
  obtain ⟨d1, hds⟩ := List.forall_mem_cons.mp hds
  have d1 : v_iv (n_v vs 1) + 1 ≤ v_iv (n_v vs 8) ∧ v_iv (n_v vs 8) ≤ v_iv (n_v vs 1) + 6000 := d1
  obtain ⟨d2, hds⟩ := List.forall_mem_cons.mp hds
  have d2 : v_iv (n_v vs 7) + (-4294967296) ≤ v_iv (n_v vs 5) ∧ v_iv (n_v vs 5) ≤ v_iv (n_v vs 7) + (-1) := d2
  obtain ⟨d3, hds⟩ := List.forall_mem_cons.mp hds
  have d3 : v_iv (n_v vs 3) + 0 ≤ v_iv (n_v vs 5) ∧ v_iv (n_v vs 5) ≤ v_iv (n_v vs 3) + 5999 := d3
  obtain ⟨d4, hds⟩ := List.forall_mem_cons.mp hds
  have d4 : v_iv (n_v vs 1) + 1 ≤ v_iv (n_v vs 5) ∧ v_iv (n_v vs 5) ≤ v_iv (n_v vs 1) + 6000 := d4
  obtain ⟨d5, hds⟩ := List.forall_mem_cons.mp hds
  have d5 : v_iv (n_v vs 3) + (-4294967295) ≤ v_iv (n_v vs 4) ∧ v_iv (n_v vs 4) ≤ v_iv (n_v vs 3) + (-1) := d5
  have hf : fc_ok [(1, [8, 1, 3], []), (9, [3, 0], [4]), (7, [5, 7], [2]), (20, [7, 0], [50, 2, 0, 1004, 1005, 1, 2, 1, 0, 6, 3, 2, 1, 4, 2, 1, 5]), (3, [7, 3, 6], []), (9, [6, 0], [5]), (1, [5, 1, 3], []), (5, [4, 1, 3], []), (20, [0], [50, 2, 0, 4, 5, 2, 7, 0, 2, 0, 1, 2, 0, 4, 2, 7, 0, 2, 0, 1, 2, 0, 5, 0, 8, 6, 3, 2, 0, 4, 2, 0, 5, 0, 6000]), (20, [1, 0], [50, 2, 0, 1004, 1005, 0, 6, 4, 2, 1, 0, 0, 1, 6, 3, 2, 1, 4, 2, 1, 5])] ta ws vs := hf
  obtain ⟨f0, hf⟩ := fc_un (show (1 : Nat) < 100 from by decide) hf
  have f0 : v_iv (n_v vs 8) = v_iv (n_v vs 1) + v_iv (n_v vs 3) := f0
  obtain ⟨f1, hf⟩ := fc_un (show (9 : Nat) < 100 from by decide) hf
  have f1 : n_v vs 3 = w_fd ws (v_ad (n_v vs 0)) 4 := f1
  obtain ⟨f2, hf⟩ := fc_un (show (7 : Nat) < 100 from by decide) hf
  have f2 : v_iv (n_v vs 5) < v_iv (n_v vs 7) := f2
  obtain ⟨f3, hf⟩ := fc_un (show (20 : Nat) < 100 from by decide) hf
  have f3 : v_iv (n_v vs 7) = (w_fi ws (n_v vs 0) 4 * w_fi ws (n_v vs 0) 5) := f3
  obtain ⟨f4, hf⟩ := fc_un (show (3 : Nat) < 100 from by decide) hf
  have f4 : v_iv (n_v vs 7) = v_iv (n_v vs 3) * v_iv (n_v vs 6) := f4
  obtain ⟨f5, hf⟩ := fc_un (show (9 : Nat) < 100 from by decide) hf
  have f5 : n_v vs 6 = w_fd ws (v_ad (n_v vs 0)) 5 := f5
  obtain ⟨f6, hf⟩ := fc_un (show (1 : Nat) < 100 from by decide) hf
  have f6 : v_iv (n_v vs 5) = v_iv (n_v vs 1) + v_iv (n_v vs 3) := f6
  obtain ⟨f7, hf⟩ := fc_un (show (5 : Nat) < 100 from by decide) hf
  have f7 : v_iv (n_v vs 4) = Int.tmod (v_iv (n_v vs 1)) (v_iv (n_v vs 3)) := f7
  obtain ⟨f8, hf⟩ := fc_un (show (20 : Nat) < 100 from by decide) hf
  have f8 : (1 ≤ w_fi ws (n_v vs 0) 4) ∧ ((1 ≤ w_fi ws (n_v vs 0) 5) ∧ ((w_fi ws (n_v vs 0) 4 * w_fi ws (n_v vs 0) 5) ≤ 6000)) := f8
  obtain ⟨f9, hf⟩ := fc_un (show (20 : Nat) < 100 from by decide) hf
  have f9 : (v_iv (n_v vs 1) + 1) ≤ (w_fi ws (n_v vs 0) 4 * w_fi ws (n_v vs 0) 5) := f9
  have g1 : v_iv (n_v vs 3) = w_fi ws (n_v vs 0) 4 := congrArg v_iv f1
  have g5 : v_iv (n_v vs 6) = w_fi ws (n_v vs 0) 5 := congrArg v_iv f5
  have kz_0_4 : (-2147483648) ≤ w_fi ws (n_v vs 0) 4 ∧ w_fi ws (n_v vs 0) 4 ≤ 2147483647 := tv_rng (th_fd hD hth r0 (g := GG_9) rfl (k := 4) (t := (0, -2147483648, 2147483647, [])) rfl rfl)
  have kz_0_5 : (-2147483648) ≤ w_fi ws (n_v vs 0) 5 ∧ w_fi ws (n_v vs 0) 5 ≤ 2147483647 := tv_rng (th_fd hD hth r0 (g := GG_9) rfl (k := 5) (t := (0, -2147483648, 2147483647, [])) rfl rfl)
  have g1 := grid_bd (w := w_fi ws (n_v vs 0) 4) (h := w_fi ws (n_v vs 0) 5) (by omega) (by omega) (by omega)
  have nf0 : fc_1 (20, [8, 0], [50, 2, 0, 1004, 1005, 3, 6, 1, 2, 1, 0, 0, -1, 2, 6, 0, 2, 0, 0, 1, 0, 0, 6, 4, 2, 1, 0, 0, 1, 6, 3, 2, 1, 4, 2, 1, 5]) ws (vs) := by
    refine ⟨fun n hn => ?_, ?_⟩
    · have hn : n ∈ [8, 0] := hn
      rw [hl]
      simp only [List.mem_cons, List.not_mem_nil, or_false] at hn
      show n < 9; omega
    · show (v_iv (n_v vs 8) = (-1)) ∨ ((0 ≤ v_iv (n_v vs 8)) ∧ ((v_iv (n_v vs 8) + 1) ≤ (w_fi ws (n_v vs 0) 4 * w_fi ws (n_v vs 0) 5)))
      first | omega | grind
  have rf8 : tv_ok ta (0, 1, 5999, []) (n_v vs 8) := tv_in t8 (by first | omega | grind) (by first | omega | grind)
  refine ⟨List.forall_mem_cons.mpr ⟨rf8, (fun _ h => (by cases h))⟩, [], trivial, ?_, (fun _ h => (by cases h))⟩
  rw [List.append_nil]
  exact List.forall_mem_cons.mpr ⟨⟨show (20 : Nat) < 100 from by decide, nf0⟩, (fun _ h => (by cases h))⟩
def o_Ro_next_9 : or_T := (94, 6, [(0, (2, 0, 0, [9])), (1, (0, 0, 5999, [])), (3, (0, 1, 6000, [])), (4, (0, 0, 0, [])), (5, (0, -1, -1, []))], [(8, [4], [5]), (5, [4, 1, 3], []), (9, [3, 0], [4]), (20, [0], [50, 2, 0, 4, 5, 2, 7, 0, 2, 0, 1, 2, 0, 4, 2, 7, 0, 2, 0, 1, 2, 0, 5, 0, 8, 6, 3, 2, 0, 4, 2, 0, 5, 0, 6000]), (20, [1, 0], [50, 2, 0, 1004, 1005, 0, 6, 4, 2, 1, 0, 0, 1, 6, 3, 2, 1, 4, 2, 1, 5])], [], [], [(20, [5, 0], [50, 2, 0, 1004, 1005, 3, 6, 1, 2, 1, 0, 0, -1, 2, 6, 0, 2, 0, 0, 1, 0, 0, 6, 4, 2, 1, 0, 0, 1, 6, 3, 2, 1, 4, 2, 1, 5])], [], [(4, 3, -4294967295, -1)])
theorem oo_Ro_next_9 {kA : Nat → ClassId} : or_ok kA GG o_Ro_next_9 := by
  intro A ta ws vs hD hth hl hk hds hf
  have hl : vs.length = 6 := hl
  have hk : ∀ q ∈ ([(0, (2, 0, 0, [9])), (1, (0, 0, 5999, [])), (3, (0, 1, 6000, [])), (4, (0, 0, 0, [])), (5, (0, -1, -1, []))] : List (Nat × tv_T)), tv_ok ta q.2 (n_v vs q.1) := hk
  obtain ⟨t0, hk⟩ := List.forall_mem_cons.mp hk
  have t0 : tv_ok ta (2, 0, 0, [9]) (n_v vs 0) := t0
  have r0 : ta (v_ad (n_v vs 0)) = some 9 := tv_rg t0
  obtain ⟨t1, hk⟩ := List.forall_mem_cons.mp hk
  have t1 : tv_ok ta (0, 0, 5999, []) (n_v vs 1) := t1
  have k1 : 0 ≤ v_iv (n_v vs 1) ∧ v_iv (n_v vs 1) ≤ 5999 := tv_rng t1
  obtain ⟨t3, hk⟩ := List.forall_mem_cons.mp hk
  have t3 : tv_ok ta (0, 1, 6000, []) (n_v vs 3) := t3
  have k3 : 1 ≤ v_iv (n_v vs 3) ∧ v_iv (n_v vs 3) ≤ 6000 := tv_rng t3
  obtain ⟨t4, hk⟩ := List.forall_mem_cons.mp hk
  have t4 : tv_ok ta (0, 0, 0, []) (n_v vs 4) := t4
  have k4 : 0 ≤ v_iv (n_v vs 4) ∧ v_iv (n_v vs 4) ≤ 0 := tv_rng t4
  obtain ⟨t5, hk⟩ := List.forall_mem_cons.mp hk
  have t5 : tv_ok ta (0, -1, -1, []) (n_v vs 5) := t5
  have k5 : (-1) ≤ v_iv (n_v vs 5) ∧ v_iv (n_v vs 5) ≤ (-1) := tv_rng t5
  have hds : ∀ q ∈ ([(4, 3, -4294967295, -1)] : List of_T), n_iv vs q.2.1 + q.2.2.1 ≤ n_iv vs q.1 ∧ n_iv vs q.1 ≤ n_iv vs q.2.1 + q.2.2.2 := hds
  obtain ⟨d0, hds⟩ := List.forall_mem_cons.mp hds
  have d0 : v_iv (n_v vs 3) + (-4294967295) ≤ v_iv (n_v vs 4) ∧ v_iv (n_v vs 4) ≤ v_iv (n_v vs 3) + (-1) := d0
  have hf : fc_ok [(8, [4], [5]), (5, [4, 1, 3], []), (9, [3, 0], [4]), (20, [0], [50, 2, 0, 4, 5, 2, 7, 0, 2, 0, 1, 2, 0, 4, 2, 7, 0, 2, 0, 1, 2, 0, 5, 0, 8, 6, 3, 2, 0, 4, 2, 0, 5, 0, 6000]), (20, [1, 0], [50, 2, 0, 1004, 1005, 0, 6, 4, 2, 1, 0, 0, 1, 6, 3, 2, 1, 4, 2, 1, 5])] ta ws vs := hf
  obtain ⟨f0, hf⟩ := fc_un (show (8 : Nat) < 100 from by decide) hf
  have f0 : v_iv (n_v vs 4) ≤ 0 := f0
  obtain ⟨f1, hf⟩ := fc_un (show (5 : Nat) < 100 from by decide) hf
  have f1 : v_iv (n_v vs 4) = Int.tmod (v_iv (n_v vs 1)) (v_iv (n_v vs 3)) := f1
  obtain ⟨f2, hf⟩ := fc_un (show (9 : Nat) < 100 from by decide) hf
  have f2 : n_v vs 3 = w_fd ws (v_ad (n_v vs 0)) 4 := f2
  obtain ⟨f3, hf⟩ := fc_un (show (20 : Nat) < 100 from by decide) hf
  have f3 : (1 ≤ w_fi ws (n_v vs 0) 4) ∧ ((1 ≤ w_fi ws (n_v vs 0) 5) ∧ ((w_fi ws (n_v vs 0) 4 * w_fi ws (n_v vs 0) 5) ≤ 6000)) := f3
  obtain ⟨f4, hf⟩ := fc_un (show (20 : Nat) < 100 from by decide) hf
  have f4 : (v_iv (n_v vs 1) + 1) ≤ (w_fi ws (n_v vs 0) 4 * w_fi ws (n_v vs 0) 5) := f4
  have g2 : v_iv (n_v vs 3) = w_fi ws (n_v vs 0) 4 := congrArg v_iv f2
  have kz_0_4 : (-2147483648) ≤ w_fi ws (n_v vs 0) 4 ∧ w_fi ws (n_v vs 0) 4 ≤ 2147483647 := tv_rng (th_fd hD hth r0 (g := GG_9) rfl (k := 4) (t := (0, -2147483648, 2147483647, [])) rfl rfl)
  have kz_0_5 : (-2147483648) ≤ w_fi ws (n_v vs 0) 5 ∧ w_fi ws (n_v vs 0) 5 ≤ 2147483647 := tv_rng (th_fd hD hth r0 (g := GG_9) rfl (k := 5) (t := (0, -2147483648, 2147483647, [])) rfl rfl)
  have g1 := grid_bd (w := w_fi ws (n_v vs 0) 4) (h := w_fi ws (n_v vs 0) 5) (by omega) (by omega) (by omega)
  have nf0 : fc_1 (20, [5, 0], [50, 2, 0, 1004, 1005, 3, 6, 1, 2, 1, 0, 0, -1, 2, 6, 0, 2, 0, 0, 1, 0, 0, 6, 4, 2, 1, 0, 0, 1, 6, 3, 2, 1, 4, 2, 1, 5]) ws (vs) := by
    refine ⟨fun n hn => ?_, ?_⟩
    · have hn : n ∈ [5, 0] := hn
      rw [hl]
      simp only [List.mem_cons, List.not_mem_nil, or_false] at hn
      show n < 6; omega
    · show (v_iv (n_v vs 5) = (-1)) ∨ ((0 ≤ v_iv (n_v vs 5)) ∧ ((v_iv (n_v vs 5) + 1) ≤ (w_fi ws (n_v vs 0) 4 * w_fi ws (n_v vs 0) 5)))
      first | omega | grind
  refine ⟨(fun _ h => (by cases h)), [], trivial, ?_, (fun _ h => (by cases h))⟩
  rw [List.append_nil]
  exact List.forall_mem_cons.mpr ⟨⟨show (20 : Nat) < 100 from by decide, nf0⟩, (fun _ h => (by cases h))⟩
def o_Ro_next_10 : or_T := (94, 7, [(0, (2, 0, 0, [9])), (1, (0, 0, 5999, [])), (3, (0, 2, 6000, [])), (4, (0, 1, 5999, [])), (5, (0, 1, 1, [])), (6, (0, -1, 5998, []))], [(2, [6, 1, 5], []), (8, [4], [4]), (5, [4, 1, 3], []), (9, [3, 0], [4]), (20, [0], [50, 2, 0, 4, 5, 2, 7, 0, 2, 0, 1, 2, 0, 4, 2, 7, 0, 2, 0, 1, 2, 0, 5, 0, 8, 6, 3, 2, 0, 4, 2, 0, 5, 0, 6000]), (20, [1, 0], [50, 2, 0, 1004, 1005, 0, 6, 4, 2, 1, 0, 0, 1, 6, 3, 2, 1, 4, 2, 1, 5])], [], [], [(20, [6, 0], [50, 2, 0, 1004, 1005, 3, 6, 1, 2, 1, 0, 0, -1, 2, 6, 0, 2, 0, 0, 1, 0, 0, 6, 4, 2, 1, 0, 0, 1, 6, 3, 2, 1, 4, 2, 1, 5])], [], [(6, 1, -1, -1), (4, 3, -4294967295, -1)])
theorem oo_Ro_next_10 {kA : Nat → ClassId} : or_ok kA GG o_Ro_next_10 := by
  intro A ta ws vs hD hth hl hk hds hf
  have hl : vs.length = 7 := hl
  have hk : ∀ q ∈ ([(0, (2, 0, 0, [9])), (1, (0, 0, 5999, [])), (3, (0, 2, 6000, [])), (4, (0, 1, 5999, [])), (5, (0, 1, 1, [])), (6, (0, -1, 5998, []))] : List (Nat × tv_T)), tv_ok ta q.2 (n_v vs q.1) := hk
  obtain ⟨t0, hk⟩ := List.forall_mem_cons.mp hk
  have t0 : tv_ok ta (2, 0, 0, [9]) (n_v vs 0) := t0
  have r0 : ta (v_ad (n_v vs 0)) = some 9 := tv_rg t0
  obtain ⟨t1, hk⟩ := List.forall_mem_cons.mp hk
  have t1 : tv_ok ta (0, 0, 5999, []) (n_v vs 1) := t1
  have k1 : 0 ≤ v_iv (n_v vs 1) ∧ v_iv (n_v vs 1) ≤ 5999 := tv_rng t1
  obtain ⟨t3, hk⟩ := List.forall_mem_cons.mp hk
  have t3 : tv_ok ta (0, 2, 6000, []) (n_v vs 3) := t3
  have k3 : 2 ≤ v_iv (n_v vs 3) ∧ v_iv (n_v vs 3) ≤ 6000 := tv_rng t3
  obtain ⟨t4, hk⟩ := List.forall_mem_cons.mp hk
  have t4 : tv_ok ta (0, 1, 5999, []) (n_v vs 4) := t4
  have k4 : 1 ≤ v_iv (n_v vs 4) ∧ v_iv (n_v vs 4) ≤ 5999 := tv_rng t4
  obtain ⟨t5, hk⟩ := List.forall_mem_cons.mp hk
  have t5 : tv_ok ta (0, 1, 1, []) (n_v vs 5) := t5
  have k5 : 1 ≤ v_iv (n_v vs 5) ∧ v_iv (n_v vs 5) ≤ 1 := tv_rng t5
  obtain ⟨t6, hk⟩ := List.forall_mem_cons.mp hk
  have t6 : tv_ok ta (0, -1, 5998, []) (n_v vs 6) := t6
  have k6 : (-1) ≤ v_iv (n_v vs 6) ∧ v_iv (n_v vs 6) ≤ 5998 := tv_rng t6
  have hds : ∀ q ∈ ([(6, 1, -1, -1), (4, 3, -4294967295, -1)] : List of_T), n_iv vs q.2.1 + q.2.2.1 ≤ n_iv vs q.1 ∧ n_iv vs q.1 ≤ n_iv vs q.2.1 + q.2.2.2 := hds
  obtain ⟨d0, hds⟩ := List.forall_mem_cons.mp hds
  have d0 : v_iv (n_v vs 1) + (-1) ≤ v_iv (n_v vs 6) ∧ v_iv (n_v vs 6) ≤ v_iv (n_v vs 1) + (-1) := d0
  obtain ⟨d1, hds⟩ := List.forall_mem_cons.mp hds
  have d1 : v_iv (n_v vs 3) + (-4294967295) ≤ v_iv (n_v vs 4) ∧ v_iv (n_v vs 4) ≤ v_iv (n_v vs 3) + (-1) := d1
  have hf : fc_ok [(2, [6, 1, 5], []), (8, [4], [4]), (5, [4, 1, 3], []), (9, [3, 0], [4]), (20, [0], [50, 2, 0, 4, 5, 2, 7, 0, 2, 0, 1, 2, 0, 4, 2, 7, 0, 2, 0, 1, 2, 0, 5, 0, 8, 6, 3, 2, 0, 4, 2, 0, 5, 0, 6000]), (20, [1, 0], [50, 2, 0, 1004, 1005, 0, 6, 4, 2, 1, 0, 0, 1, 6, 3, 2, 1, 4, 2, 1, 5])] ta ws vs := hf
  obtain ⟨f0, hf⟩ := fc_un (show (2 : Nat) < 100 from by decide) hf
  have f0 : v_iv (n_v vs 6) = v_iv (n_v vs 1) - v_iv (n_v vs 5) := f0
  obtain ⟨f1, hf⟩ := fc_un (show (8 : Nat) < 100 from by decide) hf
  have f1 : 0 < v_iv (n_v vs 4) := f1
  obtain ⟨f2, hf⟩ := fc_un (show (5 : Nat) < 100 from by decide) hf
  have f2 : v_iv (n_v vs 4) = Int.tmod (v_iv (n_v vs 1)) (v_iv (n_v vs 3)) := f2
  obtain ⟨f3, hf⟩ := fc_un (show (9 : Nat) < 100 from by decide) hf
  have f3 : n_v vs 3 = w_fd ws (v_ad (n_v vs 0)) 4 := f3
  obtain ⟨f4, hf⟩ := fc_un (show (20 : Nat) < 100 from by decide) hf
  have f4 : (1 ≤ w_fi ws (n_v vs 0) 4) ∧ ((1 ≤ w_fi ws (n_v vs 0) 5) ∧ ((w_fi ws (n_v vs 0) 4 * w_fi ws (n_v vs 0) 5) ≤ 6000)) := f4
  obtain ⟨f5, hf⟩ := fc_un (show (20 : Nat) < 100 from by decide) hf
  have f5 : (v_iv (n_v vs 1) + 1) ≤ (w_fi ws (n_v vs 0) 4 * w_fi ws (n_v vs 0) 5) := f5
  have g3 : v_iv (n_v vs 3) = w_fi ws (n_v vs 0) 4 := congrArg v_iv f3
  have kz_0_4 : (-2147483648) ≤ w_fi ws (n_v vs 0) 4 ∧ w_fi ws (n_v vs 0) 4 ≤ 2147483647 := tv_rng (th_fd hD hth r0 (g := GG_9) rfl (k := 4) (t := (0, -2147483648, 2147483647, [])) rfl rfl)
  have kz_0_5 : (-2147483648) ≤ w_fi ws (n_v vs 0) 5 ∧ w_fi ws (n_v vs 0) 5 ≤ 2147483647 := tv_rng (th_fd hD hth r0 (g := GG_9) rfl (k := 5) (t := (0, -2147483648, 2147483647, [])) rfl rfl)
  have g1 := grid_bd (w := w_fi ws (n_v vs 0) 4) (h := w_fi ws (n_v vs 0) 5) (by omega) (by omega) (by omega)
  have nf0 : fc_1 (20, [6, 0], [50, 2, 0, 1004, 1005, 3, 6, 1, 2, 1, 0, 0, -1, 2, 6, 0, 2, 0, 0, 1, 0, 0, 6, 4, 2, 1, 0, 0, 1, 6, 3, 2, 1, 4, 2, 1, 5]) ws (vs) := by
    refine ⟨fun n hn => ?_, ?_⟩
    · have hn : n ∈ [6, 0] := hn
      rw [hl]
      simp only [List.mem_cons, List.not_mem_nil, or_false] at hn
      show n < 7; omega
    · show (v_iv (n_v vs 6) = (-1)) ∨ ((0 ≤ v_iv (n_v vs 6)) ∧ ((v_iv (n_v vs 6) + 1) ≤ (w_fi ws (n_v vs 0) 4 * w_fi ws (n_v vs 0) 5)))
      first | omega | grind
  refine ⟨(fun _ h => (by cases h)), [], trivial, ?_, (fun _ h => (by cases h))⟩
  rw [List.append_nil]
  exact List.forall_mem_cons.mpr ⟨⟨show (20 : Nat) < 100 from by decide, nf0⟩, (fun _ h => (by cases h))⟩
def n_Ro_next_an : List an_T := []
def t_Ro_next_ct : ct_L := []
set_option maxRecDepth 100000 in
theorem c_Ro_next {l : Launch} {D : va_G} {kA : Nat → ClassId} : ct_ok l D kA GG y_Ro_next z_Ro_next e_Ro_next := chk_all_ok (FT := [(26, 9, 4), (29, 9, 5)]) (PT := []) (CT := t_Ro_next_ct) (KT := []) (NT := []) (AN := n_Ro_next_an) (OT := [o_Ro_next_0, o_Ro_next_1, o_Ro_next_2, o_Ro_next_3, o_Ro_next_4, o_Ro_next_5, o_Ro_next_6, o_Ro_next_7, o_Ro_next_8, o_Ro_next_9, o_Ro_next_10]) 0 240 (List.forall_mem_cons.mpr ⟨oo_Ro_next_0, List.forall_mem_cons.mpr ⟨oo_Ro_next_1, List.forall_mem_cons.mpr ⟨oo_Ro_next_2, List.forall_mem_cons.mpr ⟨oo_Ro_next_3, List.forall_mem_cons.mpr ⟨oo_Ro_next_4, List.forall_mem_cons.mpr ⟨oo_Ro_next_5, List.forall_mem_cons.mpr ⟨oo_Ro_next_6, List.forall_mem_cons.mpr ⟨oo_Ro_next_7, List.forall_mem_cons.mpr ⟨oo_Ro_next_8, List.forall_mem_cons.mpr ⟨oo_Ro_next_9, List.forall_mem_cons.mpr ⟨oo_Ro_next_10, List.forall_mem_nil _⟩⟩⟩⟩⟩⟩⟩⟩⟩⟩⟩) (by decide +kernel) ⟨List.forall_mem_cons.mpr ⟨gf_Ro_26, List.forall_mem_cons.mpr ⟨gf_Ro_29, List.forall_mem_nil _⟩⟩, List.forall_mem_nil _, List.forall_mem_nil _, List.forall_mem_nil _, List.forall_mem_nil _, GG_pl⟩ (by decide +kernel)
def o_Mo_byteAt_0 : or_T := (22, 4, [(0, (2, 0, 0, [150])), (1, (0, 0, 2147483647, [])), (2, (0, 0, 2000, [])), (3, (0, -1, -1, []))], [(7, [1, 2], [3]), (9, [2, 0], [10])], [], [], [(20, [1, 0, 3], [50, 1, 1, 1010, 1001, 4, 11, 0, 6, 4, 2, 1, 0, 0, 1, 2, 1, 10, 1, 2, 1, 2, 9, 5, 3, 1, 1, 1, 0, 0, 256]), (20, [0, 1, 3], [50, 1, 0, 10, 4, 7, 0, 3, 2, 0, 10, 1, 1, 1, 2, 1, 2, 0, -1])], [], [(1, 2, 0, 4294967296)])
theorem oo_Mo_byteAt_0 {kA : Nat → ClassId} : or_ok kA GG o_Mo_byteAt_0 := by
  intro A ta ws vs hD hth hl hk hds hf
  have hl : vs.length = 4 := hl
  have hk : ∀ q ∈ ([(0, (2, 0, 0, [150])), (1, (0, 0, 2147483647, [])), (2, (0, 0, 2000, [])), (3, (0, -1, -1, []))] : List (Nat × tv_T)), tv_ok ta q.2 (n_v vs q.1) := hk
  obtain ⟨t0, hk⟩ := List.forall_mem_cons.mp hk
  have t0 : tv_ok ta (2, 0, 0, [150]) (n_v vs 0) := t0
  have r0 : ta (v_ad (n_v vs 0)) = some 150 := tv_rg t0
  obtain ⟨t1, hk⟩ := List.forall_mem_cons.mp hk
  have t1 : tv_ok ta (0, 0, 2147483647, []) (n_v vs 1) := t1
  have k1 : 0 ≤ v_iv (n_v vs 1) ∧ v_iv (n_v vs 1) ≤ 2147483647 := tv_rng t1
  obtain ⟨t2, hk⟩ := List.forall_mem_cons.mp hk
  have t2 : tv_ok ta (0, 0, 2000, []) (n_v vs 2) := t2
  have k2 : 0 ≤ v_iv (n_v vs 2) ∧ v_iv (n_v vs 2) ≤ 2000 := tv_rng t2
  obtain ⟨t3, hk⟩ := List.forall_mem_cons.mp hk
  have t3 : tv_ok ta (0, -1, -1, []) (n_v vs 3) := t3
  have k3 : (-1) ≤ v_iv (n_v vs 3) ∧ v_iv (n_v vs 3) ≤ (-1) := tv_rng t3
  have hds : ∀ q ∈ ([(1, 2, 0, 4294967296)] : List of_T), n_iv vs q.2.1 + q.2.2.1 ≤ n_iv vs q.1 ∧ n_iv vs q.1 ≤ n_iv vs q.2.1 + q.2.2.2 := hds
  obtain ⟨d0, hds⟩ := List.forall_mem_cons.mp hds
  have d0 : v_iv (n_v vs 2) + 0 ≤ v_iv (n_v vs 1) ∧ v_iv (n_v vs 1) ≤ v_iv (n_v vs 2) + 4294967296 := d0
  have hf : fc_ok [(7, [1, 2], [3]), (9, [2, 0], [10])] ta ws vs := hf
  obtain ⟨f0, hf⟩ := fc_un (show (7 : Nat) < 100 from by decide) hf
  have f0 : v_iv (n_v vs 2) ≤ v_iv (n_v vs 1) := f0
  obtain ⟨f1, hf⟩ := fc_un (show (9 : Nat) < 100 from by decide) hf
  have f1 : n_v vs 2 = w_fd ws (v_ad (n_v vs 0)) 10 := f1
  have cr_0_1 : ta (w_ar ws (n_v vs 0) 1) = some 151 := tv_rg (th_fd hD hth r0 (g := GG_150) rfl (k := 1) (t := (2, 0, 0, [151])) rfl rfl)
  have g1 : v_iv (n_v vs 2) = w_fi ws (n_v vs 0) 10 := congrArg v_iv f1
  have hK_0_1 : ∀ j : Int, 0 ≤ j → j < 2000 → (-128) ≤ w_ei ws (w_ar ws (n_v vs 0) 1) j ∧ w_ei ws (w_ar ws (n_v vs 0) 1) j ≤ 127 := fun j h0 h1 => th_el hD hth cr_0_1 (kd := 1) (n := 2000) (m := 2000) (lo := (-128)) (hi := 127) (rs := []) (L := []) rfl (by decide) (j := j.toNat) (by omega)
  have kz_0_10 : 0 ≤ w_fi ws (n_v vs 0) 10 ∧ w_fi ws (n_v vs 0) 10 ≤ 2000 := tv_rng (th_fd hD hth r0 (g := GG_150) rfl (k := 10) (t := (0, 0, 2000, [])) rfl rfl)
  have nf0 : fc_1 (20, [1, 0, 3], [50, 1, 1, 1010, 1001, 4, 11, 0, 6, 4, 2, 1, 0, 0, 1, 2, 1, 10, 1, 2, 1, 2, 9, 5, 3, 1, 1, 1, 0, 0, 256]) ws (vs) := by
    refine ⟨fun n hn => ?_, ?_⟩
    · have hn : n ∈ [1, 0, 3] := hn
      rw [hl]
      simp only [List.mem_cons, List.not_mem_nil, or_false] at hn
      show n < 4; omega
    · show ((v_iv (n_v vs 1) + 1) ≤ w_fi ws (n_v vs 0) 10) → (v_iv (n_v vs 3) = (w_ei ws (w_ar ws (n_v vs 0) 1) (v_iv (n_v vs 1)) % 256))
      first | omega | grind
  have nf1 : fc_1 (20, [0, 1, 3], [50, 1, 0, 10, 4, 7, 0, 3, 2, 0, 10, 1, 1, 1, 2, 1, 2, 0, -1]) ws (vs) := by
    refine ⟨fun n hn => ?_, ?_⟩
    · have hn : n ∈ [0, 1, 3] := hn
      rw [hl]
      simp only [List.mem_cons, List.not_mem_nil, or_false] at hn
      show n < 4; omega
    · show (w_fi ws (n_v vs 0) 10 ≤ v_iv (n_v vs 1)) → (v_iv (n_v vs 3) = (-1))
      first | omega | grind
  refine ⟨(fun _ h => (by cases h)), [], trivial, ?_, (fun _ h => (by cases h))⟩
  rw [List.append_nil]
  exact List.forall_mem_cons.mpr ⟨⟨show (20 : Nat) < 100 from by decide, nf0⟩, List.forall_mem_cons.mpr ⟨⟨show (20 : Nat) < 100 from by decide, nf1⟩, (fun _ h => (by cases h))⟩⟩
def o_Mo_byteAt_1 : or_T := (22, 7, [(0, (2, 0, 0, [150])), (1, (0, 0, 1999, [])), (2, (0, 1, 2000, [])), (3, (2, 0, 0, [151])), (4, (0, -128, 127, [])), (5, (0, 255, 255, [])), (6, (0, 0, 255, []))], [(16, [6, 4, 5], [0]), (10, [4, 3, 1], []), (9, [3, 0], [1]), (7, [1, 2], [2]), (9, [2, 0], [10])], [], [], [(20, [1, 0, 6], [50, 1, 1, 1010, 1001, 4, 11, 0, 6, 4, 2, 1, 0, 0, 1, 2, 1, 10, 1, 2, 1, 2, 9, 5, 3, 1, 1, 1, 0, 0, 256]), (20, [0, 1, 6], [50, 1, 0, 10, 4, 7, 0, 3, 2, 0, 10, 1, 1, 1, 2, 1, 2, 0, -1])], [], [(1, 2, -4294967296, -1)])
theorem oo_Mo_byteAt_1 {kA : Nat → ClassId} : or_ok kA GG o_Mo_byteAt_1 := by
  intro A ta ws vs hD hth hl hk hds hf
  have hl : vs.length = 7 := hl
  have hk : ∀ q ∈ ([(0, (2, 0, 0, [150])), (1, (0, 0, 1999, [])), (2, (0, 1, 2000, [])), (3, (2, 0, 0, [151])), (4, (0, -128, 127, [])), (5, (0, 255, 255, [])), (6, (0, 0, 255, []))] : List (Nat × tv_T)), tv_ok ta q.2 (n_v vs q.1) := hk
  obtain ⟨t0, hk⟩ := List.forall_mem_cons.mp hk
  have t0 : tv_ok ta (2, 0, 0, [150]) (n_v vs 0) := t0
  have r0 : ta (v_ad (n_v vs 0)) = some 150 := tv_rg t0
  obtain ⟨t1, hk⟩ := List.forall_mem_cons.mp hk
  have t1 : tv_ok ta (0, 0, 1999, []) (n_v vs 1) := t1
  have k1 : 0 ≤ v_iv (n_v vs 1) ∧ v_iv (n_v vs 1) ≤ 1999 := tv_rng t1
  obtain ⟨t2, hk⟩ := List.forall_mem_cons.mp hk
  have t2 : tv_ok ta (0, 1, 2000, []) (n_v vs 2) := t2
  have k2 : 1 ≤ v_iv (n_v vs 2) ∧ v_iv (n_v vs 2) ≤ 2000 := tv_rng t2
  obtain ⟨t3, hk⟩ := List.forall_mem_cons.mp hk
  have t3 : tv_ok ta (2, 0, 0, [151]) (n_v vs 3) := t3
  have r3 : ta (v_ad (n_v vs 3)) = some 151 := tv_rg t3
  obtain ⟨t4, hk⟩ := List.forall_mem_cons.mp hk
  have t4 : tv_ok ta (0, -128, 127, []) (n_v vs 4) := t4
  have k4 : (-128) ≤ v_iv (n_v vs 4) ∧ v_iv (n_v vs 4) ≤ 127 := tv_rng t4
  obtain ⟨t5, hk⟩ := List.forall_mem_cons.mp hk
  have t5 : tv_ok ta (0, 255, 255, []) (n_v vs 5) := t5
  have k5 : 255 ≤ v_iv (n_v vs 5) ∧ v_iv (n_v vs 5) ≤ 255 := tv_rng t5
  obtain ⟨t6, hk⟩ := List.forall_mem_cons.mp hk
  have t6 : tv_ok ta (0, 0, 255, []) (n_v vs 6) := t6
  have k6 : 0 ≤ v_iv (n_v vs 6) ∧ v_iv (n_v vs 6) ≤ 255 := tv_rng t6
  have hds : ∀ q ∈ ([(1, 2, -4294967296, -1)] : List of_T), n_iv vs q.2.1 + q.2.2.1 ≤ n_iv vs q.1 ∧ n_iv vs q.1 ≤ n_iv vs q.2.1 + q.2.2.2 := hds
  obtain ⟨d0, hds⟩ := List.forall_mem_cons.mp hds
  have d0 : v_iv (n_v vs 2) + (-4294967296) ≤ v_iv (n_v vs 1) ∧ v_iv (n_v vs 1) ≤ v_iv (n_v vs 2) + (-1) := d0
  have hf : fc_ok [(16, [6, 4, 5], [0]), (10, [4, 3, 1], []), (9, [3, 0], [1]), (7, [1, 2], [2]), (9, [2, 0], [10])] ta ws vs := hf
  obtain ⟨f0, hf⟩ := fc_un (show (16 : Nat) < 100 from by decide) hf
  have f0 : bv (v_iv (n_v vs 6)) = bv (v_iv (n_v vs 4)) &&& bv (v_iv (n_v vs 5)) := f0
  have fb0 : v_iv (n_v vs 6) = v_iv (n_v vs 4) % 256 := and255 f0 (by omega) (by omega) (by omega)
  obtain ⟨f1, hf⟩ := fc_un (show (10 : Nat) < 100 from by decide) hf
  have f1 : v_iv (n_v vs 4) = w_el ws (v_ad (n_v vs 3)) (v_iv (n_v vs 1)).toNat := f1
  obtain ⟨f2, hf⟩ := fc_un (show (9 : Nat) < 100 from by decide) hf
  have f2 : n_v vs 3 = w_fd ws (v_ad (n_v vs 0)) 1 := f2
  obtain ⟨f3, hf⟩ := fc_un (show (7 : Nat) < 100 from by decide) hf
  have f3 : v_iv (n_v vs 1) < v_iv (n_v vs 2) := f3
  obtain ⟨f4, hf⟩ := fc_un (show (9 : Nat) < 100 from by decide) hf
  have f4 : n_v vs 2 = w_fd ws (v_ad (n_v vs 0)) 10 := f4
  have cr_0_1 : ta (w_ar ws (n_v vs 0) 1) = some 151 := tv_rg (th_fd hD hth r0 (g := GG_150) rfl (k := 1) (t := (2, 0, 0, [151])) rfl rfl)
  have ad_3 : v_ad (n_v vs 3) = w_ar ws (n_v vs 0) 1 := congrArg v_ad f2
  rw [ad_3] at f1
  have h1 : v_iv (n_v vs 4) = w_ei ws (w_ar ws (n_v vs 0) 1) (v_iv (n_v vs 1)) := f1
  have g4 : v_iv (n_v vs 2) = w_fi ws (n_v vs 0) 10 := congrArg v_iv f4
  have br_0_1_1_0 : w_ei ws (w_ar ws (n_v vs 0) 1) (v_iv (n_v vs 1)) = w_el ws (w_ar ws (n_v vs 0) 1) (v_iv (n_v vs 1)).toNat := rfl
  have hK_0_1 : ∀ j : Int, 0 ≤ j → j < 2000 → (-128) ≤ w_ei ws (w_ar ws (n_v vs 0) 1) j ∧ w_ei ws (w_ar ws (n_v vs 0) 1) j ≤ 127 := fun j h0 h1 => th_el hD hth cr_0_1 (kd := 1) (n := 2000) (m := 2000) (lo := (-128)) (hi := 127) (rs := []) (L := []) rfl (by decide) (j := j.toNat) (by omega)
  have kz_0_10 : 0 ≤ w_fi ws (n_v vs 0) 10 ∧ w_fi ws (n_v vs 0) 10 ≤ 2000 := tv_rng (th_fd hD hth r0 (g := GG_150) rfl (k := 10) (t := (0, 0, 2000, [])) rfl rfl)
  have nf0 : fc_1 (20, [1, 0, 6], [50, 1, 1, 1010, 1001, 4, 11, 0, 6, 4, 2, 1, 0, 0, 1, 2, 1, 10, 1, 2, 1, 2, 9, 5, 3, 1, 1, 1, 0, 0, 256]) ws (vs) := by
    refine ⟨fun n hn => ?_, ?_⟩
    · have hn : n ∈ [1, 0, 6] := hn
      rw [hl]
      simp only [List.mem_cons, List.not_mem_nil, or_false] at hn
      show n < 7; omega
    · show ((v_iv (n_v vs 1) + 1) ≤ w_fi ws (n_v vs 0) 10) → (v_iv (n_v vs 6) = (w_ei ws (w_ar ws (n_v vs 0) 1) (v_iv (n_v vs 1)) % 256))
      first | omega | grind
  have nf1 : fc_1 (20, [0, 1, 6], [50, 1, 0, 10, 4, 7, 0, 3, 2, 0, 10, 1, 1, 1, 2, 1, 2, 0, -1]) ws (vs) := by
    refine ⟨fun n hn => ?_, ?_⟩
    · have hn : n ∈ [0, 1, 6] := hn
      rw [hl]
      simp only [List.mem_cons, List.not_mem_nil, or_false] at hn
      show n < 7; omega
    · show (w_fi ws (n_v vs 0) 10 ≤ v_iv (n_v vs 1)) → (v_iv (n_v vs 6) = (-1))
      first | omega | grind
  refine ⟨(fun _ h => (by cases h)), [], trivial, ?_, (fun _ h => (by cases h))⟩
  rw [List.append_nil]
  exact List.forall_mem_cons.mpr ⟨⟨show (20 : Nat) < 100 from by decide, nf0⟩, List.forall_mem_cons.mpr ⟨⟨show (20 : Nat) < 100 from by decide, nf1⟩, (fun _ h => (by cases h))⟩⟩
def n_Mo_byteAt_an : List an_T := []
def t_Mo_byteAt_ct : ct_L := []
set_option maxRecDepth 100000 in
theorem c_Mo_byteAt {l : Launch} {D : va_G} {kA : Nat → ClassId} : ct_ok l D kA GG y_Mo_byteAt z_Mo_byteAt e_Mo_byteAt := chk_all_ok (FT := [(9, 13, 1), (419, 13, 10)]) (PT := []) (CT := t_Mo_byteAt_ct) (KT := []) (NT := []) (AN := n_Mo_byteAt_an) (OT := [o_Mo_byteAt_0, o_Mo_byteAt_1]) 0 200 (List.forall_mem_cons.mpr ⟨oo_Mo_byteAt_0, List.forall_mem_cons.mpr ⟨oo_Mo_byteAt_1, List.forall_mem_nil _⟩⟩) (by decide +kernel) ⟨List.forall_mem_cons.mpr ⟨gf_Mo_9, List.forall_mem_cons.mpr ⟨gf_Mo_419, List.forall_mem_nil _⟩⟩, List.forall_mem_nil _, List.forall_mem_nil _, List.forall_mem_nil _, List.forall_mem_nil _, GG_pl⟩ (by decide +kernel)
def o_Mo_clear_0 : or_T := (2, 3, [(0, (2, 0, 0, [150])), (1, (0, 0, 66297, []))], [], [], [], [(24, [0, 0], []), (24, [1, 1], [])], [], [])
theorem oo_Mo_clear_0 {kA : Nat → ClassId} : or_ok kA GG o_Mo_clear_0 := by
  intro A ta ws vs hD hth hl hk hds hf
  have hl : vs.length = 3 := hl
  have hk : ∀ q ∈ ([(0, (2, 0, 0, [150])), (1, (0, 0, 66297, []))] : List (Nat × tv_T)), tv_ok ta q.2 (n_v vs q.1) := hk
  obtain ⟨t0, hk⟩ := List.forall_mem_cons.mp hk
  have t0 : tv_ok ta (2, 0, 0, [150]) (n_v vs 0) := t0
  have r0 : ta (v_ad (n_v vs 0)) = some 150 := tv_rg t0
  obtain ⟨t1, hk⟩ := List.forall_mem_cons.mp hk
  have t1 : tv_ok ta (0, 0, 66297, []) (n_v vs 1) := t1
  have k1 : 0 ≤ v_iv (n_v vs 1) ∧ v_iv (n_v vs 1) ≤ 66297 := tv_rng t1
  have nf0 : fc_1 (24, [0, 0], []) ws (vs) := by
    refine ⟨fun n hn => ?_, ?_⟩
    · have hn : n ∈ [0, 0] := hn
      rw [hl]
      simp only [List.mem_cons, List.not_mem_nil, or_false] at hn
      show n < 3; omega
    · show n_v vs 0 = n_v vs 0
      first | rfl | simp only [true_and]
  have nf1 : fc_1 (24, [1, 1], []) ws (vs) := by
    refine ⟨fun n hn => ?_, ?_⟩
    · have hn : n ∈ [1, 1] := hn
      rw [hl]
      simp only [List.mem_cons, List.not_mem_nil, or_false] at hn
      show n < 3; omega
    · show n_v vs 1 = n_v vs 1
      first | rfl | simp only [true_and]
  refine ⟨(fun _ h => (by cases h)), [], trivial, ?_, (fun _ h => (by cases h))⟩
  rw [List.append_nil]
  exact List.forall_mem_cons.mpr ⟨⟨show (24 : Nat) < 100 from by decide, nf0⟩, List.forall_mem_cons.mpr ⟨⟨show (24 : Nat) < 100 from by decide, nf1⟩, (fun _ h => (by cases h))⟩⟩
def o_Mo_clear_1 : or_T := (44, 13, [(0, (2, 0, 0, [150])), (1, (0, 0, 66297, [])), (2, (2, 0, 0, [150])), (3, (0, 0, 66297, [])), (6, (2, 0, 0, [152])), (7, (0, 2, 2, [])), (8, (0, 2, 66299, [])), (9, (0, 1, 1, [])), (10, (0, 531, 531, [])), (11, (0, 531, 66828, [])), (12, (0, -1, -1, []))], [(24, [0, 2], []), (24, [1, 3], []), (100, [6, 11, 12], []), (1, [11, 3, 10], []), (9, [6, 2], [2]), (100, [6, 8, 9], []), (1, [8, 3, 7], [])], [], [], [(20, [0, 1], [50, 0, 1, 2, 1, 9, 3, 0, 2, 4, 2, 1, 1, 0, 2, 0, 1])], [], [(11, 3, 531, 531), (11, 1, -4294967296, 531), (8, 3, 2, 2), (8, 1, -4294967296, 2), (1, 3, -4294967296, 0), (3, 1, -4294967296, 0)])
theorem oo_Mo_clear_1 {kA : Nat → ClassId} : or_ok kA GG o_Mo_clear_1 := by
  intro A ta ws vs hD hth hl hk hds hf
  have hl : vs.length = 13 := hl
  have hk : ∀ q ∈ ([(0, (2, 0, 0, [150])), (1, (0, 0, 66297, [])), (2, (2, 0, 0, [150])), (3, (0, 0, 66297, [])), (6, (2, 0, 0, [152])), (7, (0, 2, 2, [])), (8, (0, 2, 66299, [])), (9, (0, 1, 1, [])), (10, (0, 531, 531, [])), (11, (0, 531, 66828, [])), (12, (0, -1, -1, []))] : List (Nat × tv_T)), tv_ok ta q.2 (n_v vs q.1) := hk
  obtain ⟨t0, hk⟩ := List.forall_mem_cons.mp hk
  have t0 : tv_ok ta (2, 0, 0, [150]) (n_v vs 0) := t0
  have r0 : ta (v_ad (n_v vs 0)) = some 150 := tv_rg t0
  obtain ⟨t1, hk⟩ := List.forall_mem_cons.mp hk
  have t1 : tv_ok ta (0, 0, 66297, []) (n_v vs 1) := t1
  have k1 : 0 ≤ v_iv (n_v vs 1) ∧ v_iv (n_v vs 1) ≤ 66297 := tv_rng t1
  obtain ⟨t2, hk⟩ := List.forall_mem_cons.mp hk
  have t2 : tv_ok ta (2, 0, 0, [150]) (n_v vs 2) := t2
  have r2 : ta (v_ad (n_v vs 2)) = some 150 := tv_rg t2
  obtain ⟨t3, hk⟩ := List.forall_mem_cons.mp hk
  have t3 : tv_ok ta (0, 0, 66297, []) (n_v vs 3) := t3
  have k3 : 0 ≤ v_iv (n_v vs 3) ∧ v_iv (n_v vs 3) ≤ 66297 := tv_rng t3
  obtain ⟨t6, hk⟩ := List.forall_mem_cons.mp hk
  have t6 : tv_ok ta (2, 0, 0, [152]) (n_v vs 6) := t6
  have r6 : ta (v_ad (n_v vs 6)) = some 152 := tv_rg t6
  obtain ⟨t7, hk⟩ := List.forall_mem_cons.mp hk
  have t7 : tv_ok ta (0, 2, 2, []) (n_v vs 7) := t7
  have k7 : 2 ≤ v_iv (n_v vs 7) ∧ v_iv (n_v vs 7) ≤ 2 := tv_rng t7
  obtain ⟨t8, hk⟩ := List.forall_mem_cons.mp hk
  have t8 : tv_ok ta (0, 2, 66299, []) (n_v vs 8) := t8
  have k8 : 2 ≤ v_iv (n_v vs 8) ∧ v_iv (n_v vs 8) ≤ 66299 := tv_rng t8
  obtain ⟨t9, hk⟩ := List.forall_mem_cons.mp hk
  have t9 : tv_ok ta (0, 1, 1, []) (n_v vs 9) := t9
  have k9 : 1 ≤ v_iv (n_v vs 9) ∧ v_iv (n_v vs 9) ≤ 1 := tv_rng t9
  obtain ⟨t10, hk⟩ := List.forall_mem_cons.mp hk
  have t10 : tv_ok ta (0, 531, 531, []) (n_v vs 10) := t10
  have k10 : 531 ≤ v_iv (n_v vs 10) ∧ v_iv (n_v vs 10) ≤ 531 := tv_rng t10
  obtain ⟨t11, hk⟩ := List.forall_mem_cons.mp hk
  have t11 : tv_ok ta (0, 531, 66828, []) (n_v vs 11) := t11
  have k11 : 531 ≤ v_iv (n_v vs 11) ∧ v_iv (n_v vs 11) ≤ 66828 := tv_rng t11
  obtain ⟨t12, hk⟩ := List.forall_mem_cons.mp hk
  have t12 : tv_ok ta (0, -1, -1, []) (n_v vs 12) := t12
  have k12 : (-1) ≤ v_iv (n_v vs 12) ∧ v_iv (n_v vs 12) ≤ (-1) := tv_rng t12
  have hds : ∀ q ∈ ([(11, 3, 531, 531), (11, 1, -4294967296, 531), (8, 3, 2, 2), (8, 1, -4294967296, 2), (1, 3, -4294967296, 0), (3, 1, -4294967296, 0)] : List of_T), n_iv vs q.2.1 + q.2.2.1 ≤ n_iv vs q.1 ∧ n_iv vs q.1 ≤ n_iv vs q.2.1 + q.2.2.2 := hds
  obtain ⟨d0, hds⟩ := List.forall_mem_cons.mp hds
  have d0 : v_iv (n_v vs 3) + 531 ≤ v_iv (n_v vs 11) ∧ v_iv (n_v vs 11) ≤ v_iv (n_v vs 3) + 531 := d0
  obtain ⟨d1, hds⟩ := List.forall_mem_cons.mp hds
  have d1 : v_iv (n_v vs 1) + (-4294967296) ≤ v_iv (n_v vs 11) ∧ v_iv (n_v vs 11) ≤ v_iv (n_v vs 1) + 531 := d1
  obtain ⟨d2, hds⟩ := List.forall_mem_cons.mp hds
  have d2 : v_iv (n_v vs 3) + 2 ≤ v_iv (n_v vs 8) ∧ v_iv (n_v vs 8) ≤ v_iv (n_v vs 3) + 2 := d2
  obtain ⟨d3, hds⟩ := List.forall_mem_cons.mp hds
  have d3 : v_iv (n_v vs 1) + (-4294967296) ≤ v_iv (n_v vs 8) ∧ v_iv (n_v vs 8) ≤ v_iv (n_v vs 1) + 2 := d3
  obtain ⟨d4, hds⟩ := List.forall_mem_cons.mp hds
  have d4 : v_iv (n_v vs 3) + (-4294967296) ≤ v_iv (n_v vs 1) ∧ v_iv (n_v vs 1) ≤ v_iv (n_v vs 3) + 0 := d4
  obtain ⟨d5, hds⟩ := List.forall_mem_cons.mp hds
  have d5 : v_iv (n_v vs 1) + (-4294967296) ≤ v_iv (n_v vs 3) ∧ v_iv (n_v vs 3) ≤ v_iv (n_v vs 1) + 0 := d5
  have hf : fc_ok [(24, [0, 2], []), (24, [1, 3], []), (100, [6, 11, 12], []), (1, [11, 3, 10], []), (9, [6, 2], [2]), (100, [6, 8, 9], []), (1, [8, 3, 7], [])] ta ws vs := hf
  obtain ⟨f0, hf⟩ := fc_un (show (24 : Nat) < 100 from by decide) hf
  have f0 : n_v vs 0 = n_v vs 2 := f0
  obtain ⟨f1, hf⟩ := fc_un (show (24 : Nat) < 100 from by decide) hf
  have f1 : n_v vs 1 = n_v vs 3 := f1
  obtain ⟨ta1, w1, le1, ⟨_, s1⟩, hf⟩ := fc_us (show ¬ (100 : Nat) < 100 from by decide) hf
  have s1 : (∀ b j, w_el ws b j = if b = v_ad (n_v vs 6) ∧ j = (v_iv (n_v vs 11)).toNat then v_iv (n_v vs 12) else w_el w1 b j) ∧ ∀ b k, w_fd ws b k = w_fd w1 b k := s1
  obtain ⟨f3, hf⟩ := fc_un (show (1 : Nat) < 100 from by decide) hf
  have f3 : v_iv (n_v vs 11) = v_iv (n_v vs 3) + v_iv (n_v vs 10) := f3
  obtain ⟨f4, hf⟩ := fc_un (show (9 : Nat) < 100 from by decide) hf
  have f4 : n_v vs 6 = w_fd w1 (v_ad (n_v vs 2)) 2 := f4
  obtain ⟨ta2, w2, le2, ⟨_, s2⟩, hf⟩ := fc_us (show ¬ (100 : Nat) < 100 from by decide) hf
  have s2 : (∀ b j, w_el w1 b j = if b = v_ad (n_v vs 6) ∧ j = (v_iv (n_v vs 8)).toNat then v_iv (n_v vs 9) else w_el w2 b j) ∧ ∀ b k, w_fd w1 b k = w_fd w2 b k := s2
  obtain ⟨f6, hf⟩ := fc_un (show (1 : Nat) < 100 from by decide) hf
  have f6 : v_iv (n_v vs 8) = v_iv (n_v vs 3) + v_iv (n_v vs 7) := f6
  have q2 : n_v vs 2 = n_v vs 0 := f0.symm
  have q3 : n_v vs 3 = n_v vs 1 := f1.symm
  rw [q3] at f3
  rw [q2] at f4
  rw [q3] at f6
  have ar_0_2_1 : w_ar w1 (n_v vs 0) 2 = w_ar ws (n_v vs 0) 2 := by show v_ad (w_fd w1 _ _) = v_ad (w_fd ws _ _); rw [s1.2]
  have ar_0_2_2 : w_ar w2 (n_v vs 0) 2 = w_ar ws (n_v vs 0) 2 := by rw [← ar_0_2_1]; show v_ad (w_fd w2 _ _) = v_ad (w_fd w1 _ _); rw [s2.2]
  have cr_0_2 : ta (w_ar ws (n_v vs 0) 2) = some 152 := tv_rg (th_fd hD hth r0 (g := GG_150) rfl (k := 2) (t := (2, 0, 0, [152])) rfl rfl)
  have ad_6 : v_ad (n_v vs 6) = w_ar ws (n_v vs 0) 2 := (congrArg v_ad f4).trans ar_0_2_1
  have hE_0_2_1 : ∀ j : Int, 0 ≤ j → (j = v_iv (n_v vs 11) → w_ei ws (w_ar ws (n_v vs 0) 2) j = v_iv (n_v vs 12)) ∧ (j ≠ v_iv (n_v vs 11) → w_ei ws (w_ar ws (n_v vs 0) 2) j = w_ei w1 (w_ar ws (n_v vs 0) 2) j) := fun j hj => ⟨fun h => by unfold w_ei; rw [s1.1, if_pos ⟨ad_6.symm, by rw [h]⟩], fun h => by unfold w_ei; rw [s1.1, if_neg (fun e => h (by have := e.2; omega))]⟩
  have hE_0_2_2 : ∀ j : Int, 0 ≤ j → (j = v_iv (n_v vs 8) → w_ei w1 (w_ar ws (n_v vs 0) 2) j = v_iv (n_v vs 9)) ∧ (j ≠ v_iv (n_v vs 8) → w_ei w1 (w_ar ws (n_v vs 0) 2) j = w_ei w2 (w_ar ws (n_v vs 0) 2) j) := fun j hj => ⟨fun h => by unfold w_ei; rw [s2.1, if_pos ⟨ad_6.symm, by rw [h]⟩], fun h => by unfold w_ei; rw [s2.1, if_neg (fun e => h (by have := e.2; omega))]⟩
  first | have hI0 := (hE_0_2_1 ((v_iv (n_v vs 1) + 2)) (by omega)).2 (by omega) | have hI0 := (hE_0_2_1 ((v_iv (n_v vs 1) + 2)) (by omega)).1 (by omega) | skip
  first | have hI1 := (hE_0_2_2 ((v_iv (n_v vs 1) + 2)) (by omega)).2 (by omega) | have hI1 := (hE_0_2_2 ((v_iv (n_v vs 1) + 2)) (by omega)).1 (by omega) | skip
  have nf0 : fc_1 (20, [0, 1], [50, 0, 1, 2, 1, 9, 3, 0, 2, 4, 2, 1, 1, 0, 2, 0, 1]) ws (vs) := by
    refine ⟨fun n hn => ?_, ?_⟩
    · have hn : n ∈ [0, 1] := hn
      rw [hl]
      simp only [List.mem_cons, List.not_mem_nil, or_false] at hn
      show n < 13; omega
    · show w_ei ws (w_ar ws (n_v vs 0) 2) ((v_iv (n_v vs 1) + 2)) = 1
      first | omega | grind
  refine ⟨(fun _ h => (by cases h)), [], trivial, ?_, (fun _ h => (by cases h))⟩
  rw [List.append_nil]
  exact List.forall_mem_cons.mpr ⟨⟨show (20 : Nat) < 100 from by decide, nf0⟩, (fun _ h => (by cases h))⟩
def n_Mo_clear_an : List an_T := [(2, [(0, (2, 0, 0, [150])), (1, (5, 0, 66297, [539])), (2, (0, 0, 539, []))], [], (0, 0), [(0, 0, 99998), (1, 4, 539), (0, 0, 100000)], [(1, 3, -1000000000000, 0), (1, 4, -1000000000000, 66297), (3, 1, -1000000000000, 0), (3, 4, -1000000000000, 66297)], [], [(2, 0, 0, [150]), (5, 0, 66297, [539])], 0, [], [(24, [0, 2], []), (24, [1, 3], [])])]
def t_Mo_clear_ct : ct_L := []
set_option maxRecDepth 100000 in
theorem c_Mo_clear {l : Launch} {D : va_G} {kA : Nat → ClassId} : ct_ok l D kA GG y_Mo_clear z_Mo_clear e_Mo_clear := chk_all_ok (FT := [(16, 13, 2)]) (PT := []) (CT := t_Mo_clear_ct) (KT := []) (NT := []) (AN := n_Mo_clear_an) (OT := [o_Mo_clear_0, o_Mo_clear_1]) 3 200 (List.forall_mem_cons.mpr ⟨oo_Mo_clear_0, List.forall_mem_cons.mpr ⟨oo_Mo_clear_1, List.forall_mem_nil _⟩⟩) (by decide +kernel) ⟨List.forall_mem_cons.mpr ⟨gf_Mo_16, List.forall_mem_nil _⟩, List.forall_mem_nil _, List.forall_mem_nil _, List.forall_mem_nil _, List.forall_mem_nil _, GG_pl⟩ (by decide +kernel)
def o_Mo_hangs_0 : or_T := (18, 6, [(0, (2, 0, 0, [150])), (1, (0, 0, 23, [])), (2, (0, 0, 23, [])), (3, (2, 0, 0, [242])), (4, (2, 0, 0, [243])), (5, (0, -23, 24, []))], [(10, [5, 4, 2], []), (9, [4, 0], [128]), (20, [1, 0], [30, -1, 1, 0, 0, -1, 3, 2005000]), (20, [2, 0], [30, -1, 1, 0, 0, -1, 3, 2005000]), (20, [0, 2, 1], [50, 0, 1, 128, 2, 9, 0, 2, 0, 0, 3, 0, 128, 1, 1, 2, 9, 0, 5, 3, 0, 128, 1, 1, 0, 23, 0, 5, 3, 0, 128, 1, 2, 0, -1]), (100, [3, 1, 2], []), (9, [3, 0], [127]), (20, [0], [50, 1, 3, 5, 2, 128, 127, 5, 2, 0, 24, 4, 14, 0, 6, 4, 2, 7, 0, 0, 1, 3, 0, 2, 2, 0, 5, 2, 9, 0, 2, 0, -1, 3, 0, 128, 7, 0, 2, 9, 0, 5, 3, 0, 128, 7, 0, 0, 24, 4, 9, 0, 2, 0, 0, 3, 0, 127, 7, 0, 2, 17, 0, 9, 4, 5, 3, 0, 127, 7, 0, 0, 1, 3, 0, 2, 2, 0, 5, 2, 12, 0, 2, 0, 0, 3, 0, 128, 3, 0, 127, 7, 0, 0, 12, 4, 8, 3, 0, 128, 3, 0, 127, 7, 0, 0, 1, 3, 0, 128, 7, 0]), (20, [1, 0], [30, -1, 1, 0, 0, -1, 3, 2005000]), (20, [2, 0], [30, -1, 1, 0, 0, -1, 3, 2005000]), (20, [0, 2, 1], [50, 0, 1, 128, 2, 9, 0, 2, 0, 0, 3, 0, 128, 1, 1, 2, 9, 0, 5, 3, 0, 128, 1, 1, 0, 23, 0, 5, 3, 0, 128, 1, 2, 0, -1])], [(5, (0, 0, 23, []))], [], [], [], [])
theorem oo_Mo_hangs_0 {kA : Nat → ClassId} : or_ok kA GG o_Mo_hangs_0 := by
  intro A ta ws vs hD hth hl hk hds hf
  have hl : vs.length = 6 := hl
  have hk : ∀ q ∈ ([(0, (2, 0, 0, [150])), (1, (0, 0, 23, [])), (2, (0, 0, 23, [])), (3, (2, 0, 0, [242])), (4, (2, 0, 0, [243])), (5, (0, -23, 24, []))] : List (Nat × tv_T)), tv_ok ta q.2 (n_v vs q.1) := hk
  obtain ⟨t0, hk⟩ := List.forall_mem_cons.mp hk
  have t0 : tv_ok ta (2, 0, 0, [150]) (n_v vs 0) := t0
  have r0 : ta (v_ad (n_v vs 0)) = some 150 := tv_rg t0
  obtain ⟨t1, hk⟩ := List.forall_mem_cons.mp hk
  have t1 : tv_ok ta (0, 0, 23, []) (n_v vs 1) := t1
  have k1 : 0 ≤ v_iv (n_v vs 1) ∧ v_iv (n_v vs 1) ≤ 23 := tv_rng t1
  obtain ⟨t2, hk⟩ := List.forall_mem_cons.mp hk
  have t2 : tv_ok ta (0, 0, 23, []) (n_v vs 2) := t2
  have k2 : 0 ≤ v_iv (n_v vs 2) ∧ v_iv (n_v vs 2) ≤ 23 := tv_rng t2
  obtain ⟨t3, hk⟩ := List.forall_mem_cons.mp hk
  have t3 : tv_ok ta (2, 0, 0, [242]) (n_v vs 3) := t3
  have r3 : ta (v_ad (n_v vs 3)) = some 242 := tv_rg t3
  obtain ⟨t4, hk⟩ := List.forall_mem_cons.mp hk
  have t4 : tv_ok ta (2, 0, 0, [243]) (n_v vs 4) := t4
  have r4 : ta (v_ad (n_v vs 4)) = some 243 := tv_rg t4
  obtain ⟨t5, hk⟩ := List.forall_mem_cons.mp hk
  have t5 : tv_ok ta (0, -23, 24, []) (n_v vs 5) := t5
  have k5 : (-23) ≤ v_iv (n_v vs 5) ∧ v_iv (n_v vs 5) ≤ 24 := tv_rng t5
  have hf : fc_ok [(10, [5, 4, 2], []), (9, [4, 0], [128]), (20, [1, 0], [30, -1, 1, 0, 0, -1, 3, 2005000]), (20, [2, 0], [30, -1, 1, 0, 0, -1, 3, 2005000]), (20, [0, 2, 1], [50, 0, 1, 128, 2, 9, 0, 2, 0, 0, 3, 0, 128, 1, 1, 2, 9, 0, 5, 3, 0, 128, 1, 1, 0, 23, 0, 5, 3, 0, 128, 1, 2, 0, -1]), (100, [3, 1, 2], []), (9, [3, 0], [127]), (20, [0], [50, 1, 3, 5, 2, 128, 127, 5, 2, 0, 24, 4, 14, 0, 6, 4, 2, 7, 0, 0, 1, 3, 0, 2, 2, 0, 5, 2, 9, 0, 2, 0, -1, 3, 0, 128, 7, 0, 2, 9, 0, 5, 3, 0, 128, 7, 0, 0, 24, 4, 9, 0, 2, 0, 0, 3, 0, 127, 7, 0, 2, 17, 0, 9, 4, 5, 3, 0, 127, 7, 0, 0, 1, 3, 0, 2, 2, 0, 5, 2, 12, 0, 2, 0, 0, 3, 0, 128, 3, 0, 127, 7, 0, 0, 12, 4, 8, 3, 0, 128, 3, 0, 127, 7, 0, 0, 1, 3, 0, 128, 7, 0]), (20, [1, 0], [30, -1, 1, 0, 0, -1, 3, 2005000]), (20, [2, 0], [30, -1, 1, 0, 0, -1, 3, 2005000]), (20, [0, 2, 1], [50, 0, 1, 128, 2, 9, 0, 2, 0, 0, 3, 0, 128, 1, 1, 2, 9, 0, 5, 3, 0, 128, 1, 1, 0, 23, 0, 5, 3, 0, 128, 1, 2, 0, -1])] ta ws vs := hf
  obtain ⟨f0, hf⟩ := fc_un (show (10 : Nat) < 100 from by decide) hf
  have f0 : v_iv (n_v vs 5) = w_el ws (v_ad (n_v vs 4)) (v_iv (n_v vs 2)).toNat := f0
  obtain ⟨f1, hf⟩ := fc_un (show (9 : Nat) < 100 from by decide) hf
  have f1 : n_v vs 4 = w_fd ws (v_ad (n_v vs 0)) 128 := f1
  obtain ⟨f2, hf⟩ := fc_un (show (20 : Nat) < 100 from by decide) hf
  have f2 : 1 * v_iv (n_v vs 1) + ((-1) * w_el ws (w_ar ws (n_v vs 0) 2) (w_fi ws (n_v vs 0) 5 + 0).toNat + 0) ≤ (-1) := f2
  obtain ⟨f3, hf⟩ := fc_un (show (20 : Nat) < 100 from by decide) hf
  have f3 : 1 * v_iv (n_v vs 2) + ((-1) * w_el ws (w_ar ws (n_v vs 0) 2) (w_fi ws (n_v vs 0) 5 + 0).toNat + 0) ≤ (-1) := f3
  obtain ⟨f4, hf⟩ := fc_un (show (20 : Nat) < 100 from by decide) hf
  have f4 : (0 ≤ w_ei ws (w_ar ws (n_v vs 0) 128) (v_iv (n_v vs 2))) ∧ ((w_ei ws (w_ar ws (n_v vs 0) 128) (v_iv (n_v vs 2)) ≤ 23) ∧ (w_ei ws (w_ar ws (n_v vs 0) 128) (v_iv (n_v vs 1)) ≤ (-1))) := f4
  obtain ⟨ta1, w1, le1, ⟨_, s1⟩, hf⟩ := fc_us (show ¬ (100 : Nat) < 100 from by decide) hf
  have s1 : (∀ b j, w_el ws b j = if b = v_ad (n_v vs 3) ∧ j = (v_iv (n_v vs 1)).toNat then v_iv (n_v vs 2) else w_el w1 b j) ∧ ∀ b k, w_fd ws b k = w_fd w1 b k := s1
  obtain ⟨f6, hf⟩ := fc_un (show (9 : Nat) < 100 from by decide) hf
  have f6 : n_v vs 3 = w_fd w1 (v_ad (n_v vs 0)) 127 := f6
  obtain ⟨f7, hf⟩ := fc_un (show (20 : Nat) < 100 from by decide) hf
  have f7 : ∀ j0 : Int, 0 ≤ j0 → j0 < 24 → (((j0 + 1) ≤ w_ei w1 (w_ar w1 (n_v vs 0) 2) (w_fi w1 (n_v vs 0) 5)) → (((-1) ≤ w_ei w1 (w_ar w1 (n_v vs 0) 128) (j0)) ∧ ((w_ei w1 (w_ar w1 (n_v vs 0) 128) (j0) ≤ 24) ∧ ((0 ≤ w_ei w1 (w_ar w1 (n_v vs 0) 127) (j0)) → (((w_ei w1 (w_ar w1 (n_v vs 0) 127) (j0) + 1) ≤ w_ei w1 (w_ar w1 (n_v vs 0) 2) (w_fi w1 (n_v vs 0) 5)) ∧ ((0 ≤ w_ei w1 (w_ar w1 (n_v vs 0) 128) (w_ei w1 (w_ar w1 (n_v vs 0) 127) (j0))) ∧ ((w_ei w1 (w_ar w1 (n_v vs 0) 128) (w_ei w1 (w_ar w1 (n_v vs 0) 127) (j0)) + 1) ≤ w_ei w1 (w_ar w1 (n_v vs 0) 128) (j0)))))))) := f7
  obtain ⟨f8, hf⟩ := fc_un (show (20 : Nat) < 100 from by decide) hf
  have f8 : 1 * v_iv (n_v vs 1) + ((-1) * w_el w1 (w_ar w1 (n_v vs 0) 2) (w_fi w1 (n_v vs 0) 5 + 0).toNat + 0) ≤ (-1) := f8
  obtain ⟨f9, hf⟩ := fc_un (show (20 : Nat) < 100 from by decide) hf
  have f9 : 1 * v_iv (n_v vs 2) + ((-1) * w_el w1 (w_ar w1 (n_v vs 0) 2) (w_fi w1 (n_v vs 0) 5 + 0).toNat + 0) ≤ (-1) := f9
  obtain ⟨f10, hf⟩ := fc_un (show (20 : Nat) < 100 from by decide) hf
  have f10 : (0 ≤ w_ei w1 (w_ar w1 (n_v vs 0) 128) (v_iv (n_v vs 2))) ∧ ((w_ei w1 (w_ar w1 (n_v vs 0) 128) (v_iv (n_v vs 2)) ≤ 23) ∧ (w_ei w1 (w_ar w1 (n_v vs 0) 128) (v_iv (n_v vs 1)) ≤ (-1))) := f10
  have ar_0_2_1 : w_ar w1 (n_v vs 0) 2 = w_ar ws (n_v vs 0) 2 := by show v_ad (w_fd w1 _ _) = v_ad (w_fd ws _ _); rw [s1.2]
  have cr_0_2 : ta (w_ar ws (n_v vs 0) 2) = some 152 := tv_rg (th_fd hD hth r0 (g := GG_150) rfl (k := 2) (t := (2, 0, 0, [152])) rfl rfl)
  have ar_0_127_1 : w_ar w1 (n_v vs 0) 127 = w_ar ws (n_v vs 0) 127 := by show v_ad (w_fd w1 _ _) = v_ad (w_fd ws _ _); rw [s1.2]
  have cr_0_127 : ta (w_ar ws (n_v vs 0) 127) = some 242 := tv_rg (th_fd hD hth r0 (g := GG_150) rfl (k := 127) (t := (2, 0, 0, [242])) rfl rfl)
  have ar_0_128_1 : w_ar w1 (n_v vs 0) 128 = w_ar ws (n_v vs 0) 128 := by show v_ad (w_fd w1 _ _) = v_ad (w_fd ws _ _); rw [s1.2]
  have cr_0_128 : ta (w_ar ws (n_v vs 0) 128) = some 243 := tv_rg (th_fd hD hth r0 (g := GG_150) rfl (k := 128) (t := (2, 0, 0, [243])) rfl rfl)
  have fi_0_5_1 : w_fi w1 (n_v vs 0) 5 = w_fi ws (n_v vs 0) 5 := by show v_iv (w_fd w1 _ _) = v_iv (w_fd ws _ _); rw [s1.2]
  have ad_4 : v_ad (n_v vs 4) = w_ar ws (n_v vs 0) 128 := congrArg v_ad f1
  have ad_3 : v_ad (n_v vs 3) = w_ar ws (n_v vs 0) 127 := (congrArg v_ad f6).trans ar_0_127_1
  rw [ad_4] at f0
  have h0 : v_iv (n_v vs 5) = w_ei ws (w_ar ws (n_v vs 0) 128) (v_iv (n_v vs 2)) := f0
  rw [ar_0_2_1] at f7
  rw [ar_0_127_1] at f7
  rw [ar_0_128_1] at f7
  rw [ar_0_2_1] at f8
  rw [fi_0_5_1] at f8
  rw [ar_0_2_1] at f9
  rw [fi_0_5_1] at f9
  rw [ar_0_128_1] at f10
  have fe_0_5_1 : w_fi ws (n_v vs 0) 5 = w_fi w1 (n_v vs 0) 5 := congrArg v_iv (s1.2 _ _)
  have ee_0_128_2_1 : w_el ws (w_ar ws (n_v vs 0) 128) (v_iv (n_v vs 2)).toNat = w_el w1 (w_ar ws (n_v vs 0) 128) (v_iv (n_v vs 2)).toNat := by rw [s1.1, if_neg (fun e => by have e1 := e.1; rw [← e1] at r3; rw [cr_0_128] at r3; exact absurd (Option.some.inj r3) (by decide))]
  have ee_0_2_F5_0_1 : w_el ws (w_ar ws (n_v vs 0) 2) (w_fi ws (n_v vs 0) 5 + 0).toNat = w_el w1 (w_ar ws (n_v vs 0) 2) (w_fi ws (n_v vs 0) 5 + 0).toNat := by rw [s1.1, if_neg (fun e => by have e1 := e.1; rw [← e1] at r3; rw [cr_0_2] at r3; exact absurd (Option.some.inj r3) (by decide))]
  have br_0_128_2_0 : w_ei ws (w_ar ws (n_v vs 0) 128) (v_iv (n_v vs 2)) = w_el ws (w_ar ws (n_v vs 0) 128) (v_iv (n_v vs 2)).toNat := rfl
  have br_0_128_2_1 : w_ei w1 (w_ar ws (n_v vs 0) 128) (v_iv (n_v vs 2)) = w_el w1 (w_ar ws (n_v vs 0) 128) (v_iv (n_v vs 2)).toNat := rfl
  have br_0_2_F5_0_0 : w_ei ws (w_ar ws (n_v vs 0) 2) (w_fi ws (n_v vs 0) 5 + 0) = w_el ws (w_ar ws (n_v vs 0) 2) (w_fi ws (n_v vs 0) 5 + 0).toNat := rfl
  have br_0_2_F5_0_1 : w_ei w1 (w_ar ws (n_v vs 0) 2) (w_fi ws (n_v vs 0) 5 + 0) = w_el w1 (w_ar ws (n_v vs 0) 2) (w_fi ws (n_v vs 0) 5 + 0).toNat := rfl
  have hE_0_2_1 : ∀ j : Int, w_ei ws (w_ar ws (n_v vs 0) 2) j = w_ei w1 (w_ar ws (n_v vs 0) 2) j := fun j => by unfold w_ei; rw [s1.1, if_neg (fun e => by have e1 := e.1; rw [← e1] at r3; rw [cr_0_2] at r3; exact absurd (Option.some.inj r3) (by decide))]
  have hE_0_127_1 : ∀ j : Int, 0 ≤ j → (j = v_iv (n_v vs 1) → w_ei ws (w_ar ws (n_v vs 0) 127) j = v_iv (n_v vs 2)) ∧ (j ≠ v_iv (n_v vs 1) → w_ei ws (w_ar ws (n_v vs 0) 127) j = w_ei w1 (w_ar ws (n_v vs 0) 127) j) := fun j hj => ⟨fun h => by unfold w_ei; rw [s1.1, if_pos ⟨ad_3.symm, by rw [h]⟩], fun h => by unfold w_ei; rw [s1.1, if_neg (fun e => h (by have := e.2; omega))]⟩
  have hK_0_127 : ∀ j : Int, 0 ≤ j → j < 26 → (-1) ≤ w_ei ws (w_ar ws (n_v vs 0) 127) j ∧ w_ei ws (w_ar ws (n_v vs 0) 127) j ≤ 23 := fun j h0 h1 => th_el hD hth cr_0_127 (kd := 0) (n := 26) (m := 26) (lo := (-1)) (hi := 23) (rs := []) (L := []) rfl (by decide) (j := j.toNat) (by omega)
  have hE_0_128_1 : ∀ j : Int, w_ei ws (w_ar ws (n_v vs 0) 128) j = w_ei w1 (w_ar ws (n_v vs 0) 128) j := fun j => by unfold w_ei; rw [s1.1, if_neg (fun e => by have e1 := e.1; rw [← e1] at r3; rw [cr_0_128] at r3; exact absurd (Option.some.inj r3) (by decide))]
  have hK_0_128 : ∀ j : Int, 0 ≤ j → j < 26 → (-23) ≤ w_ei ws (w_ar ws (n_v vs 0) 128) j ∧ w_ei ws (w_ar ws (n_v vs 0) 128) j ≤ 24 := fun j h0 h1 => th_el hD hth cr_0_128 (kd := 0) (n := 26) (m := 26) (lo := (-23)) (hi := 24) (rs := []) (L := []) rfl (by decide) (j := j.toNat) (by omega)
  have rf5 : tv_ok ta (0, 0, 23, []) (n_v vs 5) := tv_in t5 (by first | omega | grind) (by first | omega | grind)
  refine ⟨List.forall_mem_cons.mpr ⟨rf5, (fun _ h => (by cases h))⟩, [], trivial, ?_, (fun _ h => (by cases h))⟩
  rw [List.append_nil]
  exact (fun _ h => (by cases h))
def o_Mo_hangs_1 : or_T := (21, 8, [(0, (2, 0, 0, [150])), (1, (0, 0, 23, [])), (2, (0, 0, 23, [])), (3, (2, 0, 0, [242])), (4, (2, 0, 0, [243])), (5, (0, 0, 23, [])), (6, (0, 1, 1, [])), (7, (0, 1, 24, []))], [(20, [1, 0], [30, -1, 1, 0, 0, -1, 3, 2005000]), (20, [2, 0], [30, -1, 1, 0, 0, -1, 3, 2005000]), (100, [4, 1, 7], []), (1, [7, 5, 6], []), (10, [5, 4, 2], []), (9, [4, 0], [128]), (20, [1, 0], [30, -1, 1, 0, 0, -1, 3, 2005000]), (20, [2, 0], [30, -1, 1, 0, 0, -1, 3, 2005000]), (20, [0, 2, 1], [50, 0, 1, 128, 2, 9, 0, 2, 0, 0, 3, 0, 128, 1, 1, 2, 9, 0, 5, 3, 0, 128, 1, 1, 0, 23, 0, 5, 3, 0, 128, 1, 2, 0, -1]), (100, [3, 1, 2], []), (9, [3, 0], [127]), (20, [0], [50, 1, 3, 5, 2, 128, 127, 5, 2, 0, 24, 4, 14, 0, 6, 4, 2, 7, 0, 0, 1, 3, 0, 2, 2, 0, 5, 2, 9, 0, 2, 0, -1, 3, 0, 128, 7, 0, 2, 9, 0, 5, 3, 0, 128, 7, 0, 0, 24, 4, 9, 0, 2, 0, 0, 3, 0, 127, 7, 0, 2, 17, 0, 9, 4, 5, 3, 0, 127, 7, 0, 0, 1, 3, 0, 2, 2, 0, 5, 2, 12, 0, 2, 0, 0, 3, 0, 128, 3, 0, 127, 7, 0, 0, 12, 4, 8, 3, 0, 128, 3, 0, 127, 7, 0, 0, 1, 3, 0, 128, 7, 0]), (20, [1, 0], [30, -1, 1, 0, 0, -1, 3, 2005000]), (20, [2, 0], [30, -1, 1, 0, 0, -1, 3, 2005000]), (20, [0, 2, 1], [50, 0, 1, 128, 2, 9, 0, 2, 0, 0, 3, 0, 128, 1, 1, 2, 9, 0, 5, 3, 0, 128, 1, 1, 0, 23, 0, 5, 3, 0, 128, 1, 2, 0, -1])], [], [], [(20, [0], [50, 1, 3, 5, 2, 128, 127, 5, 2, 0, 24, 4, 14, 0, 6, 4, 2, 7, 0, 0, 1, 3, 0, 2, 2, 0, 5, 2, 9, 0, 2, 0, -1, 3, 0, 128, 7, 0, 2, 9, 0, 5, 3, 0, 128, 7, 0, 0, 24, 4, 9, 0, 2, 0, 0, 3, 0, 127, 7, 0, 2, 17, 0, 9, 4, 5, 3, 0, 127, 7, 0, 0, 1, 3, 0, 2, 2, 0, 5, 2, 12, 0, 2, 0, 0, 3, 0, 128, 3, 0, 127, 7, 0, 0, 12, 4, 8, 3, 0, 128, 3, 0, 127, 7, 0, 0, 1, 3, 0, 128, 7, 0])], [], [(7, 5, 1, 1)])
theorem oo_Mo_hangs_1 {kA : Nat → ClassId} : or_ok kA GG o_Mo_hangs_1 := by
  intro A ta ws vs hD hth hl hk hds hf
  have hl : vs.length = 8 := hl
  have hk : ∀ q ∈ ([(0, (2, 0, 0, [150])), (1, (0, 0, 23, [])), (2, (0, 0, 23, [])), (3, (2, 0, 0, [242])), (4, (2, 0, 0, [243])), (5, (0, 0, 23, [])), (6, (0, 1, 1, [])), (7, (0, 1, 24, []))] : List (Nat × tv_T)), tv_ok ta q.2 (n_v vs q.1) := hk
  obtain ⟨t0, hk⟩ := List.forall_mem_cons.mp hk
  have t0 : tv_ok ta (2, 0, 0, [150]) (n_v vs 0) := t0
  have r0 : ta (v_ad (n_v vs 0)) = some 150 := tv_rg t0
  obtain ⟨t1, hk⟩ := List.forall_mem_cons.mp hk
  have t1 : tv_ok ta (0, 0, 23, []) (n_v vs 1) := t1
  have k1 : 0 ≤ v_iv (n_v vs 1) ∧ v_iv (n_v vs 1) ≤ 23 := tv_rng t1
  obtain ⟨t2, hk⟩ := List.forall_mem_cons.mp hk
  have t2 : tv_ok ta (0, 0, 23, []) (n_v vs 2) := t2
  have k2 : 0 ≤ v_iv (n_v vs 2) ∧ v_iv (n_v vs 2) ≤ 23 := tv_rng t2
  obtain ⟨t3, hk⟩ := List.forall_mem_cons.mp hk
  have t3 : tv_ok ta (2, 0, 0, [242]) (n_v vs 3) := t3
  have r3 : ta (v_ad (n_v vs 3)) = some 242 := tv_rg t3
  obtain ⟨t4, hk⟩ := List.forall_mem_cons.mp hk
  have t4 : tv_ok ta (2, 0, 0, [243]) (n_v vs 4) := t4
  have r4 : ta (v_ad (n_v vs 4)) = some 243 := tv_rg t4
  obtain ⟨t5, hk⟩ := List.forall_mem_cons.mp hk
  have t5 : tv_ok ta (0, 0, 23, []) (n_v vs 5) := t5
  have k5 : 0 ≤ v_iv (n_v vs 5) ∧ v_iv (n_v vs 5) ≤ 23 := tv_rng t5
  obtain ⟨t6, hk⟩ := List.forall_mem_cons.mp hk
  have t6 : tv_ok ta (0, 1, 1, []) (n_v vs 6) := t6
  have k6 : 1 ≤ v_iv (n_v vs 6) ∧ v_iv (n_v vs 6) ≤ 1 := tv_rng t6
  obtain ⟨t7, hk⟩ := List.forall_mem_cons.mp hk
  have t7 : tv_ok ta (0, 1, 24, []) (n_v vs 7) := t7
  have k7 : 1 ≤ v_iv (n_v vs 7) ∧ v_iv (n_v vs 7) ≤ 24 := tv_rng t7
  have hds : ∀ q ∈ ([(7, 5, 1, 1)] : List of_T), n_iv vs q.2.1 + q.2.2.1 ≤ n_iv vs q.1 ∧ n_iv vs q.1 ≤ n_iv vs q.2.1 + q.2.2.2 := hds
  obtain ⟨d0, hds⟩ := List.forall_mem_cons.mp hds
  have d0 : v_iv (n_v vs 5) + 1 ≤ v_iv (n_v vs 7) ∧ v_iv (n_v vs 7) ≤ v_iv (n_v vs 5) + 1 := d0
  have hf : fc_ok [(20, [1, 0], [30, -1, 1, 0, 0, -1, 3, 2005000]), (20, [2, 0], [30, -1, 1, 0, 0, -1, 3, 2005000]), (100, [4, 1, 7], []), (1, [7, 5, 6], []), (10, [5, 4, 2], []), (9, [4, 0], [128]), (20, [1, 0], [30, -1, 1, 0, 0, -1, 3, 2005000]), (20, [2, 0], [30, -1, 1, 0, 0, -1, 3, 2005000]), (20, [0, 2, 1], [50, 0, 1, 128, 2, 9, 0, 2, 0, 0, 3, 0, 128, 1, 1, 2, 9, 0, 5, 3, 0, 128, 1, 1, 0, 23, 0, 5, 3, 0, 128, 1, 2, 0, -1]), (100, [3, 1, 2], []), (9, [3, 0], [127]), (20, [0], [50, 1, 3, 5, 2, 128, 127, 5, 2, 0, 24, 4, 14, 0, 6, 4, 2, 7, 0, 0, 1, 3, 0, 2, 2, 0, 5, 2, 9, 0, 2, 0, -1, 3, 0, 128, 7, 0, 2, 9, 0, 5, 3, 0, 128, 7, 0, 0, 24, 4, 9, 0, 2, 0, 0, 3, 0, 127, 7, 0, 2, 17, 0, 9, 4, 5, 3, 0, 127, 7, 0, 0, 1, 3, 0, 2, 2, 0, 5, 2, 12, 0, 2, 0, 0, 3, 0, 128, 3, 0, 127, 7, 0, 0, 12, 4, 8, 3, 0, 128, 3, 0, 127, 7, 0, 0, 1, 3, 0, 128, 7, 0]), (20, [1, 0], [30, -1, 1, 0, 0, -1, 3, 2005000]), (20, [2, 0], [30, -1, 1, 0, 0, -1, 3, 2005000]), (20, [0, 2, 1], [50, 0, 1, 128, 2, 9, 0, 2, 0, 0, 3, 0, 128, 1, 1, 2, 9, 0, 5, 3, 0, 128, 1, 1, 0, 23, 0, 5, 3, 0, 128, 1, 2, 0, -1])] ta ws vs := hf
  obtain ⟨f0, hf⟩ := fc_un (show (20 : Nat) < 100 from by decide) hf
  have f0 : 1 * v_iv (n_v vs 1) + ((-1) * w_el ws (w_ar ws (n_v vs 0) 2) (w_fi ws (n_v vs 0) 5 + 0).toNat + 0) ≤ (-1) := f0
  obtain ⟨f1, hf⟩ := fc_un (show (20 : Nat) < 100 from by decide) hf
  have f1 : 1 * v_iv (n_v vs 2) + ((-1) * w_el ws (w_ar ws (n_v vs 0) 2) (w_fi ws (n_v vs 0) 5 + 0).toNat + 0) ≤ (-1) := f1
  obtain ⟨ta1, w1, le1, ⟨_, s1⟩, hf⟩ := fc_us (show ¬ (100 : Nat) < 100 from by decide) hf
  have s1 : (∀ b j, w_el ws b j = if b = v_ad (n_v vs 4) ∧ j = (v_iv (n_v vs 1)).toNat then v_iv (n_v vs 7) else w_el w1 b j) ∧ ∀ b k, w_fd ws b k = w_fd w1 b k := s1
  obtain ⟨f3, hf⟩ := fc_un (show (1 : Nat) < 100 from by decide) hf
  have f3 : v_iv (n_v vs 7) = v_iv (n_v vs 5) + v_iv (n_v vs 6) := f3
  obtain ⟨f4, hf⟩ := fc_un (show (10 : Nat) < 100 from by decide) hf
  have f4 : v_iv (n_v vs 5) = w_el w1 (v_ad (n_v vs 4)) (v_iv (n_v vs 2)).toNat := f4
  obtain ⟨f5, hf⟩ := fc_un (show (9 : Nat) < 100 from by decide) hf
  have f5 : n_v vs 4 = w_fd w1 (v_ad (n_v vs 0)) 128 := f5
  obtain ⟨f6, hf⟩ := fc_un (show (20 : Nat) < 100 from by decide) hf
  have f6 : 1 * v_iv (n_v vs 1) + ((-1) * w_el w1 (w_ar w1 (n_v vs 0) 2) (w_fi w1 (n_v vs 0) 5 + 0).toNat + 0) ≤ (-1) := f6
  obtain ⟨f7, hf⟩ := fc_un (show (20 : Nat) < 100 from by decide) hf
  have f7 : 1 * v_iv (n_v vs 2) + ((-1) * w_el w1 (w_ar w1 (n_v vs 0) 2) (w_fi w1 (n_v vs 0) 5 + 0).toNat + 0) ≤ (-1) := f7
  obtain ⟨f8, hf⟩ := fc_un (show (20 : Nat) < 100 from by decide) hf
  have f8 : (0 ≤ w_ei w1 (w_ar w1 (n_v vs 0) 128) (v_iv (n_v vs 2))) ∧ ((w_ei w1 (w_ar w1 (n_v vs 0) 128) (v_iv (n_v vs 2)) ≤ 23) ∧ (w_ei w1 (w_ar w1 (n_v vs 0) 128) (v_iv (n_v vs 1)) ≤ (-1))) := f8
  obtain ⟨ta2, w2, le2, ⟨_, s2⟩, hf⟩ := fc_us (show ¬ (100 : Nat) < 100 from by decide) hf
  have s2 : (∀ b j, w_el w1 b j = if b = v_ad (n_v vs 3) ∧ j = (v_iv (n_v vs 1)).toNat then v_iv (n_v vs 2) else w_el w2 b j) ∧ ∀ b k, w_fd w1 b k = w_fd w2 b k := s2
  obtain ⟨f10, hf⟩ := fc_un (show (9 : Nat) < 100 from by decide) hf
  have f10 : n_v vs 3 = w_fd w2 (v_ad (n_v vs 0)) 127 := f10
  obtain ⟨f11, hf⟩ := fc_un (show (20 : Nat) < 100 from by decide) hf
  have f11 : ∀ j0 : Int, 0 ≤ j0 → j0 < 24 → (((j0 + 1) ≤ w_ei w2 (w_ar w2 (n_v vs 0) 2) (w_fi w2 (n_v vs 0) 5)) → (((-1) ≤ w_ei w2 (w_ar w2 (n_v vs 0) 128) (j0)) ∧ ((w_ei w2 (w_ar w2 (n_v vs 0) 128) (j0) ≤ 24) ∧ ((0 ≤ w_ei w2 (w_ar w2 (n_v vs 0) 127) (j0)) → (((w_ei w2 (w_ar w2 (n_v vs 0) 127) (j0) + 1) ≤ w_ei w2 (w_ar w2 (n_v vs 0) 2) (w_fi w2 (n_v vs 0) 5)) ∧ ((0 ≤ w_ei w2 (w_ar w2 (n_v vs 0) 128) (w_ei w2 (w_ar w2 (n_v vs 0) 127) (j0))) ∧ ((w_ei w2 (w_ar w2 (n_v vs 0) 128) (w_ei w2 (w_ar w2 (n_v vs 0) 127) (j0)) + 1) ≤ w_ei w2 (w_ar w2 (n_v vs 0) 128) (j0)))))))) := f11
  obtain ⟨f12, hf⟩ := fc_un (show (20 : Nat) < 100 from by decide) hf
  have f12 : 1 * v_iv (n_v vs 1) + ((-1) * w_el w2 (w_ar w2 (n_v vs 0) 2) (w_fi w2 (n_v vs 0) 5 + 0).toNat + 0) ≤ (-1) := f12
  obtain ⟨f13, hf⟩ := fc_un (show (20 : Nat) < 100 from by decide) hf
  have f13 : 1 * v_iv (n_v vs 2) + ((-1) * w_el w2 (w_ar w2 (n_v vs 0) 2) (w_fi w2 (n_v vs 0) 5 + 0).toNat + 0) ≤ (-1) := f13
  obtain ⟨f14, hf⟩ := fc_un (show (20 : Nat) < 100 from by decide) hf
  have f14 : (0 ≤ w_ei w2 (w_ar w2 (n_v vs 0) 128) (v_iv (n_v vs 2))) ∧ ((w_ei w2 (w_ar w2 (n_v vs 0) 128) (v_iv (n_v vs 2)) ≤ 23) ∧ (w_ei w2 (w_ar w2 (n_v vs 0) 128) (v_iv (n_v vs 1)) ≤ (-1))) := f14
  have ar_0_2_1 : w_ar w1 (n_v vs 0) 2 = w_ar ws (n_v vs 0) 2 := by show v_ad (w_fd w1 _ _) = v_ad (w_fd ws _ _); rw [s1.2]
  have ar_0_2_2 : w_ar w2 (n_v vs 0) 2 = w_ar ws (n_v vs 0) 2 := by rw [← ar_0_2_1]; show v_ad (w_fd w2 _ _) = v_ad (w_fd w1 _ _); rw [s2.2]
  have cr_0_2 : ta (w_ar ws (n_v vs 0) 2) = some 152 := tv_rg (th_fd hD hth r0 (g := GG_150) rfl (k := 2) (t := (2, 0, 0, [152])) rfl rfl)
  have ar_0_127_1 : w_ar w1 (n_v vs 0) 127 = w_ar ws (n_v vs 0) 127 := by show v_ad (w_fd w1 _ _) = v_ad (w_fd ws _ _); rw [s1.2]
  have ar_0_127_2 : w_ar w2 (n_v vs 0) 127 = w_ar ws (n_v vs 0) 127 := by rw [← ar_0_127_1]; show v_ad (w_fd w2 _ _) = v_ad (w_fd w1 _ _); rw [s2.2]
  have cr_0_127 : ta (w_ar ws (n_v vs 0) 127) = some 242 := tv_rg (th_fd hD hth r0 (g := GG_150) rfl (k := 127) (t := (2, 0, 0, [242])) rfl rfl)
  have ar_0_128_1 : w_ar w1 (n_v vs 0) 128 = w_ar ws (n_v vs 0) 128 := by show v_ad (w_fd w1 _ _) = v_ad (w_fd ws _ _); rw [s1.2]
  have ar_0_128_2 : w_ar w2 (n_v vs 0) 128 = w_ar ws (n_v vs 0) 128 := by rw [← ar_0_128_1]; show v_ad (w_fd w2 _ _) = v_ad (w_fd w1 _ _); rw [s2.2]
  have cr_0_128 : ta (w_ar ws (n_v vs 0) 128) = some 243 := tv_rg (th_fd hD hth r0 (g := GG_150) rfl (k := 128) (t := (2, 0, 0, [243])) rfl rfl)
  have fi_0_5_1 : w_fi w1 (n_v vs 0) 5 = w_fi ws (n_v vs 0) 5 := by show v_iv (w_fd w1 _ _) = v_iv (w_fd ws _ _); rw [s1.2]
  have fi_0_5_2 : w_fi w2 (n_v vs 0) 5 = w_fi ws (n_v vs 0) 5 := by rw [← fi_0_5_1]; show v_iv (w_fd w2 _ _) = v_iv (w_fd w1 _ _); rw [s2.2]
  have ad_4 : v_ad (n_v vs 4) = w_ar ws (n_v vs 0) 128 := (congrArg v_ad f5).trans ar_0_128_1
  have ad_3 : v_ad (n_v vs 3) = w_ar ws (n_v vs 0) 127 := (congrArg v_ad f10).trans ar_0_127_2
  rw [ad_4] at f4
  have h4 : v_iv (n_v vs 5) = w_ei w1 (w_ar ws (n_v vs 0) 128) (v_iv (n_v vs 2)) := f4
  rw [ar_0_2_1] at f6
  rw [fi_0_5_1] at f6
  rw [ar_0_2_1] at f7
  rw [fi_0_5_1] at f7
  rw [ar_0_128_1] at f8
  rw [ar_0_2_2] at f11
  rw [ar_0_127_2] at f11
  rw [ar_0_128_2] at f11
  rw [ar_0_2_2] at f12
  rw [fi_0_5_2] at f12
  rw [ar_0_2_2] at f13
  rw [fi_0_5_2] at f13
  rw [ar_0_128_2] at f14
  have fe_0_5_1 : w_fi ws (n_v vs 0) 5 = w_fi w1 (n_v vs 0) 5 := congrArg v_iv (s1.2 _ _)
  have ee_0_128_2_1 : ((v_iv (n_v vs 2)).toNat = (v_iv (n_v vs 1)).toNat → w_el ws (w_ar ws (n_v vs 0) 128) (v_iv (n_v vs 2)).toNat = v_iv (n_v vs 7)) ∧ ((v_iv (n_v vs 2)).toNat ≠ (v_iv (n_v vs 1)).toNat → w_el ws (w_ar ws (n_v vs 0) 128) (v_iv (n_v vs 2)).toNat = w_el w1 (w_ar ws (n_v vs 0) 128) (v_iv (n_v vs 2)).toNat) := ⟨fun h => by rw [s1.1, if_pos ⟨ad_4.symm, h⟩], fun h => by rw [s1.1, if_neg (fun e => h e.2)]⟩
  have ee_0_2_F5_0_1 : w_el ws (w_ar ws (n_v vs 0) 2) (w_fi ws (n_v vs 0) 5 + 0).toNat = w_el w1 (w_ar ws (n_v vs 0) 2) (w_fi ws (n_v vs 0) 5 + 0).toNat := by rw [s1.1, if_neg (fun e => by have e1 := e.1; rw [← e1] at r4; rw [cr_0_2] at r4; exact absurd (Option.some.inj r4) (by decide))]
  have fe_0_5_2 : w_fi w1 (n_v vs 0) 5 = w_fi w2 (n_v vs 0) 5 := congrArg v_iv (s2.2 _ _)
  have ee_0_128_2_2 : w_el w1 (w_ar ws (n_v vs 0) 128) (v_iv (n_v vs 2)).toNat = w_el w2 (w_ar ws (n_v vs 0) 128) (v_iv (n_v vs 2)).toNat := by rw [s2.1, if_neg (fun e => by have e1 := e.1; rw [← e1] at r3; rw [cr_0_128] at r3; exact absurd (Option.some.inj r3) (by decide))]
  have ee_0_2_F5_0_2 : w_el w1 (w_ar ws (n_v vs 0) 2) (w_fi ws (n_v vs 0) 5 + 0).toNat = w_el w2 (w_ar ws (n_v vs 0) 2) (w_fi ws (n_v vs 0) 5 + 0).toNat := by rw [s2.1, if_neg (fun e => by have e1 := e.1; rw [← e1] at r3; rw [cr_0_2] at r3; exact absurd (Option.some.inj r3) (by decide))]
  have br_0_128_2_0 : w_ei ws (w_ar ws (n_v vs 0) 128) (v_iv (n_v vs 2)) = w_el ws (w_ar ws (n_v vs 0) 128) (v_iv (n_v vs 2)).toNat := rfl
  have br_0_128_2_1 : w_ei w1 (w_ar ws (n_v vs 0) 128) (v_iv (n_v vs 2)) = w_el w1 (w_ar ws (n_v vs 0) 128) (v_iv (n_v vs 2)).toNat := rfl
  have br_0_128_2_2 : w_ei w2 (w_ar ws (n_v vs 0) 128) (v_iv (n_v vs 2)) = w_el w2 (w_ar ws (n_v vs 0) 128) (v_iv (n_v vs 2)).toNat := rfl
  have br_0_2_F5_0_0 : w_ei ws (w_ar ws (n_v vs 0) 2) (w_fi ws (n_v vs 0) 5 + 0) = w_el ws (w_ar ws (n_v vs 0) 2) (w_fi ws (n_v vs 0) 5 + 0).toNat := rfl
  have br_0_2_F5_0_1 : w_ei w1 (w_ar ws (n_v vs 0) 2) (w_fi ws (n_v vs 0) 5 + 0) = w_el w1 (w_ar ws (n_v vs 0) 2) (w_fi ws (n_v vs 0) 5 + 0).toNat := rfl
  have br_0_2_F5_0_2 : w_ei w2 (w_ar ws (n_v vs 0) 2) (w_fi ws (n_v vs 0) 5 + 0) = w_el w2 (w_ar ws (n_v vs 0) 2) (w_fi ws (n_v vs 0) 5 + 0).toNat := rfl
  have hE_0_2_1 : ∀ j : Int, w_ei ws (w_ar ws (n_v vs 0) 2) j = w_ei w1 (w_ar ws (n_v vs 0) 2) j := fun j => by unfold w_ei; rw [s1.1, if_neg (fun e => by have e1 := e.1; rw [← e1] at r4; rw [cr_0_2] at r4; exact absurd (Option.some.inj r4) (by decide))]
  have hE_0_2_2 : ∀ j : Int, w_ei w1 (w_ar ws (n_v vs 0) 2) j = w_ei w2 (w_ar ws (n_v vs 0) 2) j := fun j => by unfold w_ei; rw [s2.1, if_neg (fun e => by have e1 := e.1; rw [← e1] at r3; rw [cr_0_2] at r3; exact absurd (Option.some.inj r3) (by decide))]
  have hE_0_127_1 : ∀ j : Int, w_ei ws (w_ar ws (n_v vs 0) 127) j = w_ei w1 (w_ar ws (n_v vs 0) 127) j := fun j => by unfold w_ei; rw [s1.1, if_neg (fun e => by have e1 := e.1; rw [← e1] at r4; rw [cr_0_127] at r4; exact absurd (Option.some.inj r4) (by decide))]
  have hE_0_127_2 : ∀ j : Int, 0 ≤ j → (j = v_iv (n_v vs 1) → w_ei w1 (w_ar ws (n_v vs 0) 127) j = v_iv (n_v vs 2)) ∧ (j ≠ v_iv (n_v vs 1) → w_ei w1 (w_ar ws (n_v vs 0) 127) j = w_ei w2 (w_ar ws (n_v vs 0) 127) j) := fun j hj => ⟨fun h => by unfold w_ei; rw [s2.1, if_pos ⟨ad_3.symm, by rw [h]⟩], fun h => by unfold w_ei; rw [s2.1, if_neg (fun e => h (by have := e.2; omega))]⟩
  have hK_0_127 : ∀ j : Int, 0 ≤ j → j < 26 → (-1) ≤ w_ei ws (w_ar ws (n_v vs 0) 127) j ∧ w_ei ws (w_ar ws (n_v vs 0) 127) j ≤ 23 := fun j h0 h1 => th_el hD hth cr_0_127 (kd := 0) (n := 26) (m := 26) (lo := (-1)) (hi := 23) (rs := []) (L := []) rfl (by decide) (j := j.toNat) (by omega)
  have hE_0_128_1 : ∀ j : Int, 0 ≤ j → (j = v_iv (n_v vs 1) → w_ei ws (w_ar ws (n_v vs 0) 128) j = v_iv (n_v vs 7)) ∧ (j ≠ v_iv (n_v vs 1) → w_ei ws (w_ar ws (n_v vs 0) 128) j = w_ei w1 (w_ar ws (n_v vs 0) 128) j) := fun j hj => ⟨fun h => by unfold w_ei; rw [s1.1, if_pos ⟨ad_4.symm, by rw [h]⟩], fun h => by unfold w_ei; rw [s1.1, if_neg (fun e => h (by have := e.2; omega))]⟩
  have hE_0_128_2 : ∀ j : Int, w_ei w1 (w_ar ws (n_v vs 0) 128) j = w_ei w2 (w_ar ws (n_v vs 0) 128) j := fun j => by unfold w_ei; rw [s2.1, if_neg (fun e => by have e1 := e.1; rw [← e1] at r3; rw [cr_0_128] at r3; exact absurd (Option.some.inj r3) (by decide))]
  have hK_0_128 : ∀ j : Int, 0 ≤ j → j < 26 → (-23) ≤ w_ei ws (w_ar ws (n_v vs 0) 128) j ∧ w_ei ws (w_ar ws (n_v vs 0) 128) j ≤ 24 := fun j h0 h1 => th_el hD hth cr_0_128 (kd := 0) (n := 26) (m := 26) (lo := (-23)) (hi := 24) (rs := []) (L := []) rfl (by decide) (j := j.toNat) (by omega)
  have nf0 : fc_1 (20, [0], [50, 1, 3, 5, 2, 128, 127, 5, 2, 0, 24, 4, 14, 0, 6, 4, 2, 7, 0, 0, 1, 3, 0, 2, 2, 0, 5, 2, 9, 0, 2, 0, -1, 3, 0, 128, 7, 0, 2, 9, 0, 5, 3, 0, 128, 7, 0, 0, 24, 4, 9, 0, 2, 0, 0, 3, 0, 127, 7, 0, 2, 17, 0, 9, 4, 5, 3, 0, 127, 7, 0, 0, 1, 3, 0, 2, 2, 0, 5, 2, 12, 0, 2, 0, 0, 3, 0, 128, 3, 0, 127, 7, 0, 0, 12, 4, 8, 3, 0, 128, 3, 0, 127, 7, 0, 0, 1, 3, 0, 128, 7, 0]) ws (vs) := by
    refine ⟨fun n hn => ?_, ?_⟩
    · have hn : n ∈ [0] := hn
      rw [hl]
      simp only [List.mem_cons, List.not_mem_nil, or_false] at hn
      show n < 8; omega
    · show ∀ j0 : Int, 0 ≤ j0 → j0 < 24 → (((j0 + 1) ≤ w_ei ws (w_ar ws (n_v vs 0) 2) (w_fi ws (n_v vs 0) 5)) → (((-1) ≤ w_ei ws (w_ar ws (n_v vs 0) 128) (j0)) ∧ ((w_ei ws (w_ar ws (n_v vs 0) 128) (j0) ≤ 24) ∧ ((0 ≤ w_ei ws (w_ar ws (n_v vs 0) 127) (j0)) → (((w_ei ws (w_ar ws (n_v vs 0) 127) (j0) + 1) ≤ w_ei ws (w_ar ws (n_v vs 0) 2) (w_fi ws (n_v vs 0) 5)) ∧ ((0 ≤ w_ei ws (w_ar ws (n_v vs 0) 128) (w_ei ws (w_ar ws (n_v vs 0) 127) (j0))) ∧ ((w_ei ws (w_ar ws (n_v vs 0) 128) (w_ei ws (w_ar ws (n_v vs 0) 127) (j0)) + 1) ≤ w_ei ws (w_ar ws (n_v vs 0) 128) (j0))))))))
      first | omega | grind
  refine ⟨(fun _ h => (by cases h)), [], trivial, ?_, (fun _ h => (by cases h))⟩
  rw [List.append_nil]
  exact List.forall_mem_cons.mpr ⟨⟨show (20 : Nat) < 100 from by decide, nf0⟩, (fun _ h => (by cases h))⟩
def n_Mo_hangs_an : List an_T := []
def t_Mo_hangs_ct : ct_L := []
set_option maxRecDepth 100000 in
theorem c_Mo_hangs {l : Launch} {D : va_G} {kA : Nat → ClassId} : ct_ok l D kA GG y_Mo_hangs z_Mo_hangs e_Mo_hangs := chk_all_ok (FT := [(290, 13, 127), (293, 13, 128)]) (PT := []) (CT := t_Mo_hangs_ct) (KT := []) (NT := []) (AN := n_Mo_hangs_an) (OT := [o_Mo_hangs_0, o_Mo_hangs_1]) 0 200 (List.forall_mem_cons.mpr ⟨oo_Mo_hangs_0, List.forall_mem_cons.mpr ⟨oo_Mo_hangs_1, List.forall_mem_nil _⟩⟩) (by decide +kernel) ⟨List.forall_mem_cons.mpr ⟨gf_Mo_290, List.forall_mem_cons.mpr ⟨gf_Mo_293, List.forall_mem_nil _⟩⟩, List.forall_mem_nil _, List.forall_mem_nil _, List.forall_mem_nil _, List.forall_mem_nil _, GG_pl⟩ (by decide +kernel)
def o_Mo_head_0 : or_T := (15, 8, [(0, (2, 0, 0, [150])), (1, (0, 0, 47, [])), (2, (2, 0, 0, [152])), (3, (0, 0, 66297, [])), (4, (0, 315, 315, [])), (5, (0, 315, 66612, [])), (6, (0, 315, 66659, [])), (7, (0, 0, 23, []))], [(10, [7, 2, 6], []), (1, [6, 5, 1], []), (1, [5, 3, 4], []), (9, [3, 0], [5]), (9, [2, 0], [2])], [], [], [(20, [7, 0, 1], [50, 1, 1, 1005, 1002, 1, 2, 1, 0, 3, 1, 2, 4, 7, 4, 3, 2, 1, 5, 0, 315, 1, 2])], [], [(6, 1, 315, 66612), (6, 5, 0, 47), (6, 3, 315, 362), (5, 3, 315, 315)])
theorem oo_Mo_head_0 {kA : Nat → ClassId} : or_ok kA GG o_Mo_head_0 := by
  intro A ta ws vs hD hth hl hk hds hf
  have hl : vs.length = 8 := hl
  have hk : ∀ q ∈ ([(0, (2, 0, 0, [150])), (1, (0, 0, 47, [])), (2, (2, 0, 0, [152])), (3, (0, 0, 66297, [])), (4, (0, 315, 315, [])), (5, (0, 315, 66612, [])), (6, (0, 315, 66659, [])), (7, (0, 0, 23, []))] : List (Nat × tv_T)), tv_ok ta q.2 (n_v vs q.1) := hk
  obtain ⟨t0, hk⟩ := List.forall_mem_cons.mp hk
  have t0 : tv_ok ta (2, 0, 0, [150]) (n_v vs 0) := t0
  have r0 : ta (v_ad (n_v vs 0)) = some 150 := tv_rg t0
  obtain ⟨t1, hk⟩ := List.forall_mem_cons.mp hk
  have t1 : tv_ok ta (0, 0, 47, []) (n_v vs 1) := t1
  have k1 : 0 ≤ v_iv (n_v vs 1) ∧ v_iv (n_v vs 1) ≤ 47 := tv_rng t1
  obtain ⟨t2, hk⟩ := List.forall_mem_cons.mp hk
  have t2 : tv_ok ta (2, 0, 0, [152]) (n_v vs 2) := t2
  have r2 : ta (v_ad (n_v vs 2)) = some 152 := tv_rg t2
  obtain ⟨t3, hk⟩ := List.forall_mem_cons.mp hk
  have t3 : tv_ok ta (0, 0, 66297, []) (n_v vs 3) := t3
  have k3 : 0 ≤ v_iv (n_v vs 3) ∧ v_iv (n_v vs 3) ≤ 66297 := tv_rng t3
  obtain ⟨t4, hk⟩ := List.forall_mem_cons.mp hk
  have t4 : tv_ok ta (0, 315, 315, []) (n_v vs 4) := t4
  have k4 : 315 ≤ v_iv (n_v vs 4) ∧ v_iv (n_v vs 4) ≤ 315 := tv_rng t4
  obtain ⟨t5, hk⟩ := List.forall_mem_cons.mp hk
  have t5 : tv_ok ta (0, 315, 66612, []) (n_v vs 5) := t5
  have k5 : 315 ≤ v_iv (n_v vs 5) ∧ v_iv (n_v vs 5) ≤ 66612 := tv_rng t5
  obtain ⟨t6, hk⟩ := List.forall_mem_cons.mp hk
  have t6 : tv_ok ta (0, 315, 66659, []) (n_v vs 6) := t6
  have k6 : 315 ≤ v_iv (n_v vs 6) ∧ v_iv (n_v vs 6) ≤ 66659 := tv_rng t6
  obtain ⟨t7, hk⟩ := List.forall_mem_cons.mp hk
  have t7 : tv_ok ta (0, 0, 23, []) (n_v vs 7) := t7
  have k7 : 0 ≤ v_iv (n_v vs 7) ∧ v_iv (n_v vs 7) ≤ 23 := tv_rng t7
  have hds : ∀ q ∈ ([(6, 1, 315, 66612), (6, 5, 0, 47), (6, 3, 315, 362), (5, 3, 315, 315)] : List of_T), n_iv vs q.2.1 + q.2.2.1 ≤ n_iv vs q.1 ∧ n_iv vs q.1 ≤ n_iv vs q.2.1 + q.2.2.2 := hds
  obtain ⟨d0, hds⟩ := List.forall_mem_cons.mp hds
  have d0 : v_iv (n_v vs 1) + 315 ≤ v_iv (n_v vs 6) ∧ v_iv (n_v vs 6) ≤ v_iv (n_v vs 1) + 66612 := d0
  obtain ⟨d1, hds⟩ := List.forall_mem_cons.mp hds
  have d1 : v_iv (n_v vs 5) + 0 ≤ v_iv (n_v vs 6) ∧ v_iv (n_v vs 6) ≤ v_iv (n_v vs 5) + 47 := d1
  obtain ⟨d2, hds⟩ := List.forall_mem_cons.mp hds
  have d2 : v_iv (n_v vs 3) + 315 ≤ v_iv (n_v vs 6) ∧ v_iv (n_v vs 6) ≤ v_iv (n_v vs 3) + 362 := d2
  obtain ⟨d3, hds⟩ := List.forall_mem_cons.mp hds
  have d3 : v_iv (n_v vs 3) + 315 ≤ v_iv (n_v vs 5) ∧ v_iv (n_v vs 5) ≤ v_iv (n_v vs 3) + 315 := d3
  have hf : fc_ok [(10, [7, 2, 6], []), (1, [6, 5, 1], []), (1, [5, 3, 4], []), (9, [3, 0], [5]), (9, [2, 0], [2])] ta ws vs := hf
  obtain ⟨f0, hf⟩ := fc_un (show (10 : Nat) < 100 from by decide) hf
  have f0 : v_iv (n_v vs 7) = w_el ws (v_ad (n_v vs 2)) (v_iv (n_v vs 6)).toNat := f0
  obtain ⟨f1, hf⟩ := fc_un (show (1 : Nat) < 100 from by decide) hf
  have f1 : v_iv (n_v vs 6) = v_iv (n_v vs 5) + v_iv (n_v vs 1) := f1
  obtain ⟨f2, hf⟩ := fc_un (show (1 : Nat) < 100 from by decide) hf
  have f2 : v_iv (n_v vs 5) = v_iv (n_v vs 3) + v_iv (n_v vs 4) := f2
  obtain ⟨f3, hf⟩ := fc_un (show (9 : Nat) < 100 from by decide) hf
  have f3 : n_v vs 3 = w_fd ws (v_ad (n_v vs 0)) 5 := f3
  obtain ⟨f4, hf⟩ := fc_un (show (9 : Nat) < 100 from by decide) hf
  have f4 : n_v vs 2 = w_fd ws (v_ad (n_v vs 0)) 2 := f4
  have cr_0_2 : ta (w_ar ws (n_v vs 0) 2) = some 152 := tv_rg (th_fd hD hth r0 (g := GG_150) rfl (k := 2) (t := (2, 0, 0, [152])) rfl rfl)
  have ad_2 : v_ad (n_v vs 2) = w_ar ws (n_v vs 0) 2 := congrArg v_ad f4
  rw [ad_2] at f0
  have h0 : v_iv (n_v vs 7) = w_ei ws (w_ar ws (n_v vs 0) 2) (v_iv (n_v vs 6)) := f0
  have g3 : v_iv (n_v vs 3) = w_fi ws (n_v vs 0) 5 := congrArg v_iv f3
  have br_0_2_6_0 : w_ei ws (w_ar ws (n_v vs 0) 2) (v_iv (n_v vs 6)) = w_el ws (w_ar ws (n_v vs 0) 2) (v_iv (n_v vs 6)).toNat := rfl
  have nf0 : fc_1 (20, [7, 0, 1], [50, 1, 1, 1005, 1002, 1, 2, 1, 0, 3, 1, 2, 4, 7, 4, 3, 2, 1, 5, 0, 315, 1, 2]) ws (vs) := by
    refine ⟨fun n hn => ?_, ?_⟩
    · have hn : n ∈ [7, 0, 1] := hn
      rw [hl]
      simp only [List.mem_cons, List.not_mem_nil, or_false] at hn
      show n < 8; omega
    · show v_iv (n_v vs 7) = w_ei ws (w_ar ws (n_v vs 0) 2) (((w_fi ws (n_v vs 0) 5 + 315) + v_iv (n_v vs 1)))
      first | omega | grind
  refine ⟨(fun _ h => (by cases h)), [], trivial, ?_, (fun _ h => (by cases h))⟩
  rw [List.append_nil]
  exact List.forall_mem_cons.mpr ⟨⟨show (20 : Nat) < 100 from by decide, nf0⟩, (fun _ h => (by cases h))⟩
def n_Mo_head_an : List an_T := []
def t_Mo_head_ct : ct_L := []
set_option maxRecDepth 100000 in
theorem c_Mo_head {l : Launch} {D : va_G} {kA : Nat → ClassId} : ct_ok l D kA GG y_Mo_head z_Mo_head e_Mo_head := chk_all_ok (FT := [(16, 13, 2), (391, 13, 5)]) (PT := []) (CT := t_Mo_head_ct) (KT := []) (NT := []) (AN := n_Mo_head_an) (OT := [o_Mo_head_0]) 0 200 (List.forall_mem_cons.mpr ⟨oo_Mo_head_0, List.forall_mem_nil _⟩) (by decide +kernel) ⟨List.forall_mem_cons.mpr ⟨gf_Mo_16, List.forall_mem_cons.mpr ⟨gf_Mo_391, List.forall_mem_nil _⟩⟩, List.forall_mem_nil _, List.forall_mem_nil _, List.forall_mem_nil _, List.forall_mem_nil _, GG_pl⟩ (by decide +kernel)
def o_Mo_isAhead_0 : or_T := (3, 4, [(0, (2, 0, 0, [150])), (1, (0, 0, 23, []))], [(20, [0], [50, 1, 3, 5, 2, 128, 127, 5, 2, 0, 24, 4, 14, 0, 6, 4, 2, 7, 0, 0, 1, 3, 0, 2, 2, 0, 5, 2, 9, 0, 2, 0, -1, 3, 0, 128, 7, 0, 2, 9, 0, 5, 3, 0, 128, 7, 0, 0, 24, 4, 9, 0, 2, 0, 0, 3, 0, 127, 7, 0, 2, 17, 0, 9, 4, 5, 3, 0, 127, 7, 0, 0, 1, 3, 0, 2, 2, 0, 5, 2, 12, 0, 2, 0, 0, 3, 0, 128, 3, 0, 127, 7, 0, 0, 12, 4, 8, 3, 0, 128, 3, 0, 127, 7, 0, 0, 1, 3, 0, 128, 7, 0]), (20, [1, 0], [30, -1, 1, 0, 0, -1, 3, 2005000])], [], [(0, -2, 60, [])], [(20, [0], [50, 1, 3, 5, 2, 128, 127, 5, 2, 0, 24, 4, 14, 0, 6, 4, 2, 7, 0, 0, 1, 3, 0, 2, 2, 0, 5, 2, 9, 0, 2, 0, -1, 3, 0, 128, 7, 0, 2, 9, 0, 5, 3, 0, 128, 7, 0, 0, 24, 4, 9, 0, 2, 0, 0, 3, 0, 127, 7, 0, 2, 17, 0, 9, 4, 5, 3, 0, 127, 7, 0, 0, 1, 3, 0, 2, 2, 0, 5, 2, 12, 0, 2, 0, 0, 3, 0, 128, 3, 0, 127, 7, 0, 0, 12, 4, 8, 3, 0, 128, 3, 0, 127, 7, 0, 0, 1, 3, 0, 128, 7, 0]), (20, [1, 0, 4], [50, 1, 2, 1005, 1002, 1128, 3, 6, 0, 2, 1, 0, 0, -1, 2, 14, 0, 6, 4, 2, 1, 0, 0, 1, 3, 1, 2, 2, 1, 5, 0, 9, 4, 5, 3, 1, 128, 1, 0, 0, 0, 1, 2])], [], [])
theorem oo_Mo_isAhead_0 {kA : Nat → ClassId} : or_ok kA GG o_Mo_isAhead_0 := by
  intro A ta ws vs hD hth hl hk hds hf
  have hl : vs.length = 4 := hl
  have hk : ∀ q ∈ ([(0, (2, 0, 0, [150])), (1, (0, 0, 23, []))] : List (Nat × tv_T)), tv_ok ta q.2 (n_v vs q.1) := hk
  obtain ⟨t0, hk⟩ := List.forall_mem_cons.mp hk
  have t0 : tv_ok ta (2, 0, 0, [150]) (n_v vs 0) := t0
  have r0 : ta (v_ad (n_v vs 0)) = some 150 := tv_rg t0
  obtain ⟨t1, hk⟩ := List.forall_mem_cons.mp hk
  have t1 : tv_ok ta (0, 0, 23, []) (n_v vs 1) := t1
  have k1 : 0 ≤ v_iv (n_v vs 1) ∧ v_iv (n_v vs 1) ≤ 23 := tv_rng t1
  have hf : fc_ok [(20, [0], [50, 1, 3, 5, 2, 128, 127, 5, 2, 0, 24, 4, 14, 0, 6, 4, 2, 7, 0, 0, 1, 3, 0, 2, 2, 0, 5, 2, 9, 0, 2, 0, -1, 3, 0, 128, 7, 0, 2, 9, 0, 5, 3, 0, 128, 7, 0, 0, 24, 4, 9, 0, 2, 0, 0, 3, 0, 127, 7, 0, 2, 17, 0, 9, 4, 5, 3, 0, 127, 7, 0, 0, 1, 3, 0, 2, 2, 0, 5, 2, 12, 0, 2, 0, 0, 3, 0, 128, 3, 0, 127, 7, 0, 0, 12, 4, 8, 3, 0, 128, 3, 0, 127, 7, 0, 0, 1, 3, 0, 128, 7, 0]), (20, [1, 0], [30, -1, 1, 0, 0, -1, 3, 2005000])] ta ws vs := hf
  obtain ⟨f0, hf⟩ := fc_un (show (20 : Nat) < 100 from by decide) hf
  have f0 : ∀ j0 : Int, 0 ≤ j0 → j0 < 24 → (((j0 + 1) ≤ w_ei ws (w_ar ws (n_v vs 0) 2) (w_fi ws (n_v vs 0) 5)) → (((-1) ≤ w_ei ws (w_ar ws (n_v vs 0) 128) (j0)) ∧ ((w_ei ws (w_ar ws (n_v vs 0) 128) (j0) ≤ 24) ∧ ((0 ≤ w_ei ws (w_ar ws (n_v vs 0) 127) (j0)) → (((w_ei ws (w_ar ws (n_v vs 0) 127) (j0) + 1) ≤ w_ei ws (w_ar ws (n_v vs 0) 2) (w_fi ws (n_v vs 0) 5)) ∧ ((0 ≤ w_ei ws (w_ar ws (n_v vs 0) 128) (w_ei ws (w_ar ws (n_v vs 0) 127) (j0))) ∧ ((w_ei ws (w_ar ws (n_v vs 0) 128) (w_ei ws (w_ar ws (n_v vs 0) 127) (j0)) + 1) ≤ w_ei ws (w_ar ws (n_v vs 0) 128) (j0)))))))) := f0
  obtain ⟨f1, hf⟩ := fc_un (show (20 : Nat) < 100 from by decide) hf
  have f1 : 1 * v_iv (n_v vs 1) + ((-1) * w_el ws (w_ar ws (n_v vs 0) 2) (w_fi ws (n_v vs 0) 5 + 0).toNat + 0) ≤ (-1) := f1
  have cr_0_2 : ta (w_ar ws (n_v vs 0) 2) = some 152 := tv_rg (th_fd hD hth r0 (g := GG_150) rfl (k := 2) (t := (2, 0, 0, [152])) rfl rfl)
  have cr_0_127 : ta (w_ar ws (n_v vs 0) 127) = some 242 := tv_rg (th_fd hD hth r0 (g := GG_150) rfl (k := 127) (t := (2, 0, 0, [242])) rfl rfl)
  have cr_0_128 : ta (w_ar ws (n_v vs 0) 128) = some 243 := tv_rg (th_fd hD hth r0 (g := GG_150) rfl (k := 128) (t := (2, 0, 0, [243])) rfl rfl)
  have br_0_2_F5_0_0 : w_ei ws (w_ar ws (n_v vs 0) 2) (w_fi ws (n_v vs 0) 5 + 0) = w_el ws (w_ar ws (n_v vs 0) 2) (w_fi ws (n_v vs 0) 5 + 0).toNat := rfl
  have hK_0_127 : ∀ j : Int, 0 ≤ j → j < 26 → (-1) ≤ w_ei ws (w_ar ws (n_v vs 0) 127) j ∧ w_ei ws (w_ar ws (n_v vs 0) 127) j ≤ 23 := fun j h0 h1 => th_el hD hth cr_0_127 (kd := 0) (n := 26) (m := 26) (lo := (-1)) (hi := 23) (rs := []) (L := []) rfl (by decide) (j := j.toNat) (by omega)
  have hK_0_128 : ∀ j : Int, 0 ≤ j → j < 26 → (-23) ≤ w_ei ws (w_ar ws (n_v vs 0) 128) j ∧ w_ei ws (w_ar ws (n_v vs 0) 128) j ≤ 24 := fun j h0 h1 => th_el hD hth cr_0_128 (kd := 0) (n := 26) (m := 26) (lo := (-23)) (hi := 24) (rs := []) (L := []) rfl (by decide) (j := j.toNat) (by omega)
  obtain ⟨x, ex, hx⟩ := iv_ex (ta := ta) (lo := (-2)) (hi := 60) (z := 60) (by omega) (by omega) (by omega) (by omega)
  have ex2 : v_iv (Value.int x) = 60 := ex
  have ex3 : (-2) ≤ v_iv (Value.int x) ∧ v_iv (Value.int x) ≤ 60 := tv_rng hx
  have e_0 : n_v (vs ++ [Value.int x]) 0 = n_v vs 0 := n_v_old (by rw [hl]; decide)
  have e_1 : n_v (vs ++ [Value.int x]) 1 = n_v vs 1 := n_v_old (by rw [hl]; decide)
  have e_4 : n_v (vs ++ [Value.int x]) 4 = Value.int x := n_v_new hl
  have nf0 : fc_1 (20, [0], [50, 1, 3, 5, 2, 128, 127, 5, 2, 0, 24, 4, 14, 0, 6, 4, 2, 7, 0, 0, 1, 3, 0, 2, 2, 0, 5, 2, 9, 0, 2, 0, -1, 3, 0, 128, 7, 0, 2, 9, 0, 5, 3, 0, 128, 7, 0, 0, 24, 4, 9, 0, 2, 0, 0, 3, 0, 127, 7, 0, 2, 17, 0, 9, 4, 5, 3, 0, 127, 7, 0, 0, 1, 3, 0, 2, 2, 0, 5, 2, 12, 0, 2, 0, 0, 3, 0, 128, 3, 0, 127, 7, 0, 0, 12, 4, 8, 3, 0, 128, 3, 0, 127, 7, 0, 0, 1, 3, 0, 128, 7, 0]) ws (vs ++ [Value.int x]) := by
    refine ⟨fun n hn => ?_, ?_⟩
    · have hn : n ∈ [0] := hn
      rw [List.length_append, hl]
      simp only [List.mem_cons, List.not_mem_nil, or_false] at hn
      show n < 4 + 1; omega
    · show ∀ j0 : Int, 0 ≤ j0 → j0 < 24 → (((j0 + 1) ≤ w_ei ws (w_ar ws (n_v (vs ++ [Value.int x]) 0) 2) (w_fi ws (n_v (vs ++ [Value.int x]) 0) 5)) → (((-1) ≤ w_ei ws (w_ar ws (n_v (vs ++ [Value.int x]) 0) 128) (j0)) ∧ ((w_ei ws (w_ar ws (n_v (vs ++ [Value.int x]) 0) 128) (j0) ≤ 24) ∧ ((0 ≤ w_ei ws (w_ar ws (n_v (vs ++ [Value.int x]) 0) 127) (j0)) → (((w_ei ws (w_ar ws (n_v (vs ++ [Value.int x]) 0) 127) (j0) + 1) ≤ w_ei ws (w_ar ws (n_v (vs ++ [Value.int x]) 0) 2) (w_fi ws (n_v (vs ++ [Value.int x]) 0) 5)) ∧ ((0 ≤ w_ei ws (w_ar ws (n_v (vs ++ [Value.int x]) 0) 128) (w_ei ws (w_ar ws (n_v (vs ++ [Value.int x]) 0) 127) (j0))) ∧ ((w_ei ws (w_ar ws (n_v (vs ++ [Value.int x]) 0) 128) (w_ei ws (w_ar ws (n_v (vs ++ [Value.int x]) 0) 127) (j0)) + 1) ≤ w_ei ws (w_ar ws (n_v (vs ++ [Value.int x]) 0) 128) (j0))))))))
      rw [e_0]
      first | omega | grind
  have nf1 : fc_1 (20, [1, 0, 4], [50, 1, 2, 1005, 1002, 1128, 3, 6, 0, 2, 1, 0, 0, -1, 2, 14, 0, 6, 4, 2, 1, 0, 0, 1, 3, 1, 2, 2, 1, 5, 0, 9, 4, 5, 3, 1, 128, 1, 0, 0, 0, 1, 2]) ws (vs ++ [Value.int x]) := by
    refine ⟨fun n hn => ?_, ?_⟩
    · have hn : n ∈ [1, 0, 4] := hn
      rw [List.length_append, hl]
      simp only [List.mem_cons, List.not_mem_nil, or_false] at hn
      show n < 4 + 1; omega
    · show (v_iv (n_v (vs ++ [Value.int x]) 1) ≤ (-1)) ∨ (((v_iv (n_v (vs ++ [Value.int x]) 1) + 1) ≤ w_ei ws (w_ar ws (n_v (vs ++ [Value.int x]) 0) 2) (w_fi ws (n_v (vs ++ [Value.int x]) 0) 5)) ∧ ((w_ei ws (w_ar ws (n_v (vs ++ [Value.int x]) 0) 128) (v_iv (n_v (vs ++ [Value.int x]) 1)) + 0) ≤ v_iv (n_v (vs ++ [Value.int x]) 4)))
      rw [e_0]
      rw [e_1]
      rw [e_4]
      first | omega | grind
  exact ⟨(fun _ h => (by cases h)), [Value.int x], ag_one hx, List.forall_mem_cons.mpr ⟨⟨show (20 : Nat) < 100 from by decide, nf0⟩, List.forall_mem_cons.mpr ⟨⟨show (20 : Nat) < 100 from by decide, nf1⟩, (fun _ h => (by cases h))⟩⟩, (fun _ h => (by cases h))⟩
def o_Mo_isAhead_1 : or_T := (28, 9, [(0, (2, 0, 0, [150])), (2, (0, -1, 23, [])), (4, (0, 0, 23, [])), (5, (0, -2, 60, [])), (6, (2, 0, 0, [242])), (7, (0, -1, 23, [])), (8, (0, -1, 23, []))], [(10, [8, 6, 4], []), (9, [6, 0], [127]), (7, [7, 2], [1]), (10, [7, 6, 4], []), (8, [4], [3]), (20, [0], [50, 1, 3, 5, 2, 128, 127, 5, 2, 0, 24, 4, 14, 0, 6, 4, 2, 7, 0, 0, 1, 3, 0, 2, 2, 0, 5, 2, 9, 0, 2, 0, -1, 3, 0, 128, 7, 0, 2, 9, 0, 5, 3, 0, 128, 7, 0, 0, 24, 4, 9, 0, 2, 0, 0, 3, 0, 127, 7, 0, 2, 17, 0, 9, 4, 5, 3, 0, 127, 7, 0, 0, 1, 3, 0, 2, 2, 0, 5, 2, 12, 0, 2, 0, 0, 3, 0, 128, 3, 0, 127, 7, 0, 0, 12, 4, 8, 3, 0, 128, 3, 0, 127, 7, 0, 0, 1, 3, 0, 128, 7, 0]), (20, [4, 0, 5], [50, 1, 2, 1005, 1002, 1128, 3, 6, 0, 2, 1, 0, 0, -1, 2, 14, 0, 6, 4, 2, 1, 0, 0, 1, 3, 1, 2, 2, 1, 5, 0, 9, 4, 5, 3, 1, 128, 1, 0, 0, 0, 1, 2])], [], [(0, -2, 60, [])], [(20, [0], [50, 1, 3, 5, 2, 128, 127, 5, 2, 0, 24, 4, 14, 0, 6, 4, 2, 7, 0, 0, 1, 3, 0, 2, 2, 0, 5, 2, 9, 0, 2, 0, -1, 3, 0, 128, 7, 0, 2, 9, 0, 5, 3, 0, 128, 7, 0, 0, 24, 4, 9, 0, 2, 0, 0, 3, 0, 127, 7, 0, 2, 17, 0, 9, 4, 5, 3, 0, 127, 7, 0, 0, 1, 3, 0, 2, 2, 0, 5, 2, 12, 0, 2, 0, 0, 3, 0, 128, 3, 0, 127, 7, 0, 0, 12, 4, 8, 3, 0, 128, 3, 0, 127, 7, 0, 0, 1, 3, 0, 128, 7, 0]), (20, [8, 0, 9], [50, 1, 2, 1005, 1002, 1128, 3, 6, 0, 2, 1, 0, 0, -1, 2, 14, 0, 6, 4, 2, 1, 0, 0, 1, 3, 1, 2, 2, 1, 5, 0, 9, 4, 5, 3, 1, 128, 1, 0, 0, 1, 1, 2]), (20, [9], [50, 0, 0, 0, 2, 0, -1, 1, 0])], [(9, 5, 0, 0)], [(2, 4, -4294967296, 24), (4, 2, -4294967296, 24)])
theorem oo_Mo_isAhead_1 {kA : Nat → ClassId} : or_ok kA GG o_Mo_isAhead_1 := by
  intro A ta ws vs hD hth hl hk hds hf
  have hl : vs.length = 9 := hl
  have hk : ∀ q ∈ ([(0, (2, 0, 0, [150])), (2, (0, -1, 23, [])), (4, (0, 0, 23, [])), (5, (0, -2, 60, [])), (6, (2, 0, 0, [242])), (7, (0, -1, 23, [])), (8, (0, -1, 23, []))] : List (Nat × tv_T)), tv_ok ta q.2 (n_v vs q.1) := hk
  obtain ⟨t0, hk⟩ := List.forall_mem_cons.mp hk
  have t0 : tv_ok ta (2, 0, 0, [150]) (n_v vs 0) := t0
  have r0 : ta (v_ad (n_v vs 0)) = some 150 := tv_rg t0
  obtain ⟨t2, hk⟩ := List.forall_mem_cons.mp hk
  have t2 : tv_ok ta (0, -1, 23, []) (n_v vs 2) := t2
  have k2 : (-1) ≤ v_iv (n_v vs 2) ∧ v_iv (n_v vs 2) ≤ 23 := tv_rng t2
  obtain ⟨t4, hk⟩ := List.forall_mem_cons.mp hk
  have t4 : tv_ok ta (0, 0, 23, []) (n_v vs 4) := t4
  have k4 : 0 ≤ v_iv (n_v vs 4) ∧ v_iv (n_v vs 4) ≤ 23 := tv_rng t4
  obtain ⟨t5, hk⟩ := List.forall_mem_cons.mp hk
  have t5 : tv_ok ta (0, -2, 60, []) (n_v vs 5) := t5
  have k5 : (-2) ≤ v_iv (n_v vs 5) ∧ v_iv (n_v vs 5) ≤ 60 := tv_rng t5
  obtain ⟨t6, hk⟩ := List.forall_mem_cons.mp hk
  have t6 : tv_ok ta (2, 0, 0, [242]) (n_v vs 6) := t6
  have r6 : ta (v_ad (n_v vs 6)) = some 242 := tv_rg t6
  obtain ⟨t7, hk⟩ := List.forall_mem_cons.mp hk
  have t7 : tv_ok ta (0, -1, 23, []) (n_v vs 7) := t7
  have k7 : (-1) ≤ v_iv (n_v vs 7) ∧ v_iv (n_v vs 7) ≤ 23 := tv_rng t7
  obtain ⟨t8, hk⟩ := List.forall_mem_cons.mp hk
  have t8 : tv_ok ta (0, -1, 23, []) (n_v vs 8) := t8
  have k8 : (-1) ≤ v_iv (n_v vs 8) ∧ v_iv (n_v vs 8) ≤ 23 := tv_rng t8
  have hds : ∀ q ∈ ([(2, 4, -4294967296, 24), (4, 2, -4294967296, 24)] : List of_T), n_iv vs q.2.1 + q.2.2.1 ≤ n_iv vs q.1 ∧ n_iv vs q.1 ≤ n_iv vs q.2.1 + q.2.2.2 := hds
  obtain ⟨d0, hds⟩ := List.forall_mem_cons.mp hds
  have d0 : v_iv (n_v vs 4) + (-4294967296) ≤ v_iv (n_v vs 2) ∧ v_iv (n_v vs 2) ≤ v_iv (n_v vs 4) + 24 := d0
  obtain ⟨d1, hds⟩ := List.forall_mem_cons.mp hds
  have d1 : v_iv (n_v vs 2) + (-4294967296) ≤ v_iv (n_v vs 4) ∧ v_iv (n_v vs 4) ≤ v_iv (n_v vs 2) + 24 := d1
  have hf : fc_ok [(10, [8, 6, 4], []), (9, [6, 0], [127]), (7, [7, 2], [1]), (10, [7, 6, 4], []), (8, [4], [3]), (20, [0], [50, 1, 3, 5, 2, 128, 127, 5, 2, 0, 24, 4, 14, 0, 6, 4, 2, 7, 0, 0, 1, 3, 0, 2, 2, 0, 5, 2, 9, 0, 2, 0, -1, 3, 0, 128, 7, 0, 2, 9, 0, 5, 3, 0, 128, 7, 0, 0, 24, 4, 9, 0, 2, 0, 0, 3, 0, 127, 7, 0, 2, 17, 0, 9, 4, 5, 3, 0, 127, 7, 0, 0, 1, 3, 0, 2, 2, 0, 5, 2, 12, 0, 2, 0, 0, 3, 0, 128, 3, 0, 127, 7, 0, 0, 12, 4, 8, 3, 0, 128, 3, 0, 127, 7, 0, 0, 1, 3, 0, 128, 7, 0]), (20, [4, 0, 5], [50, 1, 2, 1005, 1002, 1128, 3, 6, 0, 2, 1, 0, 0, -1, 2, 14, 0, 6, 4, 2, 1, 0, 0, 1, 3, 1, 2, 2, 1, 5, 0, 9, 4, 5, 3, 1, 128, 1, 0, 0, 0, 1, 2])] ta ws vs := hf
  obtain ⟨f0, hf⟩ := fc_un (show (10 : Nat) < 100 from by decide) hf
  have f0 : v_iv (n_v vs 8) = w_el ws (v_ad (n_v vs 6)) (v_iv (n_v vs 4)).toNat := f0
  obtain ⟨f1, hf⟩ := fc_un (show (9 : Nat) < 100 from by decide) hf
  have f1 : n_v vs 6 = w_fd ws (v_ad (n_v vs 0)) 127 := f1
  obtain ⟨f2, hf⟩ := fc_un (show (7 : Nat) < 100 from by decide) hf
  have f2 : v_iv (n_v vs 7) ≠ v_iv (n_v vs 2) := f2
  obtain ⟨f3, hf⟩ := fc_un (show (10 : Nat) < 100 from by decide) hf
  have f3 : v_iv (n_v vs 7) = w_el ws (v_ad (n_v vs 6)) (v_iv (n_v vs 4)).toNat := f3
  obtain ⟨f4, hf⟩ := fc_un (show (8 : Nat) < 100 from by decide) hf
  have f4 : 0 ≤ v_iv (n_v vs 4) := f4
  obtain ⟨f5, hf⟩ := fc_un (show (20 : Nat) < 100 from by decide) hf
  have f5 : ∀ j0 : Int, 0 ≤ j0 → j0 < 24 → (((j0 + 1) ≤ w_ei ws (w_ar ws (n_v vs 0) 2) (w_fi ws (n_v vs 0) 5)) → (((-1) ≤ w_ei ws (w_ar ws (n_v vs 0) 128) (j0)) ∧ ((w_ei ws (w_ar ws (n_v vs 0) 128) (j0) ≤ 24) ∧ ((0 ≤ w_ei ws (w_ar ws (n_v vs 0) 127) (j0)) → (((w_ei ws (w_ar ws (n_v vs 0) 127) (j0) + 1) ≤ w_ei ws (w_ar ws (n_v vs 0) 2) (w_fi ws (n_v vs 0) 5)) ∧ ((0 ≤ w_ei ws (w_ar ws (n_v vs 0) 128) (w_ei ws (w_ar ws (n_v vs 0) 127) (j0))) ∧ ((w_ei ws (w_ar ws (n_v vs 0) 128) (w_ei ws (w_ar ws (n_v vs 0) 127) (j0)) + 1) ≤ w_ei ws (w_ar ws (n_v vs 0) 128) (j0)))))))) := f5
  obtain ⟨f6, hf⟩ := fc_un (show (20 : Nat) < 100 from by decide) hf
  have f6 : (v_iv (n_v vs 4) ≤ (-1)) ∨ (((v_iv (n_v vs 4) + 1) ≤ w_ei ws (w_ar ws (n_v vs 0) 2) (w_fi ws (n_v vs 0) 5)) ∧ ((w_ei ws (w_ar ws (n_v vs 0) 128) (v_iv (n_v vs 4)) + 0) ≤ v_iv (n_v vs 5))) := f6
  have cr_0_2 : ta (w_ar ws (n_v vs 0) 2) = some 152 := tv_rg (th_fd hD hth r0 (g := GG_150) rfl (k := 2) (t := (2, 0, 0, [152])) rfl rfl)
  have cr_0_127 : ta (w_ar ws (n_v vs 0) 127) = some 242 := tv_rg (th_fd hD hth r0 (g := GG_150) rfl (k := 127) (t := (2, 0, 0, [242])) rfl rfl)
  have cr_0_128 : ta (w_ar ws (n_v vs 0) 128) = some 243 := tv_rg (th_fd hD hth r0 (g := GG_150) rfl (k := 128) (t := (2, 0, 0, [243])) rfl rfl)
  have ad_6 : v_ad (n_v vs 6) = w_ar ws (n_v vs 0) 127 := congrArg v_ad f1
  rw [ad_6] at f0
  have h0 : v_iv (n_v vs 8) = w_ei ws (w_ar ws (n_v vs 0) 127) (v_iv (n_v vs 4)) := f0
  rw [ad_6] at f3
  have h3 : v_iv (n_v vs 7) = w_ei ws (w_ar ws (n_v vs 0) 127) (v_iv (n_v vs 4)) := f3
  have br_0_127_4_0 : w_ei ws (w_ar ws (n_v vs 0) 127) (v_iv (n_v vs 4)) = w_el ws (w_ar ws (n_v vs 0) 127) (v_iv (n_v vs 4)).toNat := rfl
  have hK_0_127 : ∀ j : Int, 0 ≤ j → j < 26 → (-1) ≤ w_ei ws (w_ar ws (n_v vs 0) 127) j ∧ w_ei ws (w_ar ws (n_v vs 0) 127) j ≤ 23 := fun j h0 h1 => th_el hD hth cr_0_127 (kd := 0) (n := 26) (m := 26) (lo := (-1)) (hi := 23) (rs := []) (L := []) rfl (by decide) (j := j.toNat) (by omega)
  have hK_0_128 : ∀ j : Int, 0 ≤ j → j < 26 → (-23) ≤ w_ei ws (w_ar ws (n_v vs 0) 128) j ∧ w_ei ws (w_ar ws (n_v vs 0) 128) j ≤ 24 := fun j h0 h1 => th_el hD hth cr_0_128 (kd := 0) (n := 26) (m := 26) (lo := (-23)) (hi := 24) (rs := []) (L := []) rfl (by decide) (j := j.toNat) (by omega)
  obtain ⟨x, ex, hx⟩ := iv_ex (ta := ta) (lo := (-2)) (hi := 60) (z := 0 + (1 * v_iv (n_v vs 5) + 0)) (by omega) (by omega) (by omega) (by omega)
  have ex2 : v_iv (Value.int x) = 0 + (1 * v_iv (n_v vs 5) + 0) := ex
  have ex3 : (-2) ≤ v_iv (Value.int x) ∧ v_iv (Value.int x) ≤ 60 := tv_rng hx
  have e_0 : n_v (vs ++ [Value.int x]) 0 = n_v vs 0 := n_v_old (by rw [hl]; decide)
  have e_8 : n_v (vs ++ [Value.int x]) 8 = n_v vs 8 := n_v_old (by rw [hl]; decide)
  have e_9 : n_v (vs ++ [Value.int x]) 9 = Value.int x := n_v_new hl
  have nf0 : fc_1 (20, [0], [50, 1, 3, 5, 2, 128, 127, 5, 2, 0, 24, 4, 14, 0, 6, 4, 2, 7, 0, 0, 1, 3, 0, 2, 2, 0, 5, 2, 9, 0, 2, 0, -1, 3, 0, 128, 7, 0, 2, 9, 0, 5, 3, 0, 128, 7, 0, 0, 24, 4, 9, 0, 2, 0, 0, 3, 0, 127, 7, 0, 2, 17, 0, 9, 4, 5, 3, 0, 127, 7, 0, 0, 1, 3, 0, 2, 2, 0, 5, 2, 12, 0, 2, 0, 0, 3, 0, 128, 3, 0, 127, 7, 0, 0, 12, 4, 8, 3, 0, 128, 3, 0, 127, 7, 0, 0, 1, 3, 0, 128, 7, 0]) ws (vs ++ [Value.int x]) := by
    refine ⟨fun n hn => ?_, ?_⟩
    · have hn : n ∈ [0] := hn
      rw [List.length_append, hl]
      simp only [List.mem_cons, List.not_mem_nil, or_false] at hn
      show n < 9 + 1; omega
    · show ∀ j0 : Int, 0 ≤ j0 → j0 < 24 → (((j0 + 1) ≤ w_ei ws (w_ar ws (n_v (vs ++ [Value.int x]) 0) 2) (w_fi ws (n_v (vs ++ [Value.int x]) 0) 5)) → (((-1) ≤ w_ei ws (w_ar ws (n_v (vs ++ [Value.int x]) 0) 128) (j0)) ∧ ((w_ei ws (w_ar ws (n_v (vs ++ [Value.int x]) 0) 128) (j0) ≤ 24) ∧ ((0 ≤ w_ei ws (w_ar ws (n_v (vs ++ [Value.int x]) 0) 127) (j0)) → (((w_ei ws (w_ar ws (n_v (vs ++ [Value.int x]) 0) 127) (j0) + 1) ≤ w_ei ws (w_ar ws (n_v (vs ++ [Value.int x]) 0) 2) (w_fi ws (n_v (vs ++ [Value.int x]) 0) 5)) ∧ ((0 ≤ w_ei ws (w_ar ws (n_v (vs ++ [Value.int x]) 0) 128) (w_ei ws (w_ar ws (n_v (vs ++ [Value.int x]) 0) 127) (j0))) ∧ ((w_ei ws (w_ar ws (n_v (vs ++ [Value.int x]) 0) 128) (w_ei ws (w_ar ws (n_v (vs ++ [Value.int x]) 0) 127) (j0)) + 1) ≤ w_ei ws (w_ar ws (n_v (vs ++ [Value.int x]) 0) 128) (j0))))))))
      rw [e_0]
      first | omega | grind
  have nf1 : fc_1 (20, [8, 0, 9], [50, 1, 2, 1005, 1002, 1128, 3, 6, 0, 2, 1, 0, 0, -1, 2, 14, 0, 6, 4, 2, 1, 0, 0, 1, 3, 1, 2, 2, 1, 5, 0, 9, 4, 5, 3, 1, 128, 1, 0, 0, 1, 1, 2]) ws (vs ++ [Value.int x]) := by
    refine ⟨fun n hn => ?_, ?_⟩
    · have hn : n ∈ [8, 0, 9] := hn
      rw [List.length_append, hl]
      simp only [List.mem_cons, List.not_mem_nil, or_false] at hn
      show n < 9 + 1; omega
    · show (v_iv (n_v (vs ++ [Value.int x]) 8) ≤ (-1)) ∨ (((v_iv (n_v (vs ++ [Value.int x]) 8) + 1) ≤ w_ei ws (w_ar ws (n_v (vs ++ [Value.int x]) 0) 2) (w_fi ws (n_v (vs ++ [Value.int x]) 0) 5)) ∧ ((w_ei ws (w_ar ws (n_v (vs ++ [Value.int x]) 0) 128) (v_iv (n_v (vs ++ [Value.int x]) 8)) + 1) ≤ v_iv (n_v (vs ++ [Value.int x]) 9)))
      rw [e_0]
      rw [e_8]
      rw [e_9]
      first | omega | grind
  have nf2 : fc_1 (20, [9], [50, 0, 0, 0, 2, 0, -1, 1, 0]) ws (vs ++ [Value.int x]) := by
    refine ⟨fun n hn => ?_, ?_⟩
    · have hn : n ∈ [9] := hn
      rw [List.length_append, hl]
      simp only [List.mem_cons, List.not_mem_nil, or_false] at hn
      show n < 9 + 1; omega
    · show (-1) ≤ v_iv (n_v (vs ++ [Value.int x]) 9)
      rw [e_9]
      first | omega | grind
  obtain ⟨x0, e0, _, _⟩ := tv_int t5 rfl
  have e1 : v_iv (n_v vs 5) = x0.toInt := by rw [e0]; rfl
  have ho : sy_ofs (vs ++ [Value.int x]) (9, 5, 0, 0) := by
    refine ⟨x, x0, by rw [List.getElem?_append_right (by rw [hl]; decide), hl]; rfl, ?_, ?_, ?_⟩
    · rw [List.getElem?_append_left (by rw [hl]; decide)]; exact n_v_some (by rw [hl]; decide) e0
    · show x0.toInt + 0 ≤ x.toInt; omega
    · show x.toInt ≤ x0.toInt + 0; omega
  exact ⟨(fun _ h => (by cases h)), [Value.int x], ag_one hx, List.forall_mem_cons.mpr ⟨⟨show (20 : Nat) < 100 from by decide, nf0⟩, List.forall_mem_cons.mpr ⟨⟨show (20 : Nat) < 100 from by decide, nf1⟩, List.forall_mem_cons.mpr ⟨⟨show (20 : Nat) < 100 from by decide, nf2⟩, (fun _ h => (by cases h))⟩⟩⟩, List.forall_mem_cons.mpr ⟨ho, (fun _ h => (by cases h))⟩⟩
def o_Mo_isAhead_2 : or_T := (3, 6, [(0, (2, 0, 0, [150])), (4, (0, -1, 23, [])), (5, (0, -2, 60, []))], [(20, [0], [50, 1, 3, 5, 2, 128, 127, 5, 2, 0, 24, 4, 14, 0, 6, 4, 2, 7, 0, 0, 1, 3, 0, 2, 2, 0, 5, 2, 9, 0, 2, 0, -1, 3, 0, 128, 7, 0, 2, 9, 0, 5, 3, 0, 128, 7, 0, 0, 24, 4, 9, 0, 2, 0, 0, 3, 0, 127, 7, 0, 2, 17, 0, 9, 4, 5, 3, 0, 127, 7, 0, 0, 1, 3, 0, 2, 2, 0, 5, 2, 12, 0, 2, 0, 0, 3, 0, 128, 3, 0, 127, 7, 0, 0, 12, 4, 8, 3, 0, 128, 3, 0, 127, 7, 0, 0, 1, 3, 0, 128, 7, 0]), (20, [4, 0, 5], [50, 1, 2, 1005, 1002, 1128, 3, 6, 0, 2, 1, 0, 0, -1, 2, 14, 0, 6, 4, 2, 1, 0, 0, 1, 3, 1, 2, 2, 1, 5, 0, 9, 4, 5, 3, 1, 128, 1, 0, 0, 1, 1, 2]), (20, [5], [50, 0, 0, 0, 2, 0, -1, 1, 0])], [], [(0, -2, 60, [])], [(20, [0], [50, 1, 3, 5, 2, 128, 127, 5, 2, 0, 24, 4, 14, 0, 6, 4, 2, 7, 0, 0, 1, 3, 0, 2, 2, 0, 5, 2, 9, 0, 2, 0, -1, 3, 0, 128, 7, 0, 2, 9, 0, 5, 3, 0, 128, 7, 0, 0, 24, 4, 9, 0, 2, 0, 0, 3, 0, 127, 7, 0, 2, 17, 0, 9, 4, 5, 3, 0, 127, 7, 0, 0, 1, 3, 0, 2, 2, 0, 5, 2, 12, 0, 2, 0, 0, 3, 0, 128, 3, 0, 127, 7, 0, 0, 12, 4, 8, 3, 0, 128, 3, 0, 127, 7, 0, 0, 1, 3, 0, 128, 7, 0]), (20, [4, 0, 6], [50, 1, 2, 1005, 1002, 1128, 3, 6, 0, 2, 1, 0, 0, -1, 2, 14, 0, 6, 4, 2, 1, 0, 0, 1, 3, 1, 2, 2, 1, 5, 0, 9, 4, 5, 3, 1, 128, 1, 0, 0, 0, 1, 2])], [(6, 5, -1000000000000, -1)], [])
theorem oo_Mo_isAhead_2 {kA : Nat → ClassId} : or_ok kA GG o_Mo_isAhead_2 := by
  intro A ta ws vs hD hth hl hk hds hf
  have hl : vs.length = 6 := hl
  have hk : ∀ q ∈ ([(0, (2, 0, 0, [150])), (4, (0, -1, 23, [])), (5, (0, -2, 60, []))] : List (Nat × tv_T)), tv_ok ta q.2 (n_v vs q.1) := hk
  obtain ⟨t0, hk⟩ := List.forall_mem_cons.mp hk
  have t0 : tv_ok ta (2, 0, 0, [150]) (n_v vs 0) := t0
  have r0 : ta (v_ad (n_v vs 0)) = some 150 := tv_rg t0
  obtain ⟨t4, hk⟩ := List.forall_mem_cons.mp hk
  have t4 : tv_ok ta (0, -1, 23, []) (n_v vs 4) := t4
  have k4 : (-1) ≤ v_iv (n_v vs 4) ∧ v_iv (n_v vs 4) ≤ 23 := tv_rng t4
  obtain ⟨t5, hk⟩ := List.forall_mem_cons.mp hk
  have t5 : tv_ok ta (0, -2, 60, []) (n_v vs 5) := t5
  have k5 : (-2) ≤ v_iv (n_v vs 5) ∧ v_iv (n_v vs 5) ≤ 60 := tv_rng t5
  have hf : fc_ok [(20, [0], [50, 1, 3, 5, 2, 128, 127, 5, 2, 0, 24, 4, 14, 0, 6, 4, 2, 7, 0, 0, 1, 3, 0, 2, 2, 0, 5, 2, 9, 0, 2, 0, -1, 3, 0, 128, 7, 0, 2, 9, 0, 5, 3, 0, 128, 7, 0, 0, 24, 4, 9, 0, 2, 0, 0, 3, 0, 127, 7, 0, 2, 17, 0, 9, 4, 5, 3, 0, 127, 7, 0, 0, 1, 3, 0, 2, 2, 0, 5, 2, 12, 0, 2, 0, 0, 3, 0, 128, 3, 0, 127, 7, 0, 0, 12, 4, 8, 3, 0, 128, 3, 0, 127, 7, 0, 0, 1, 3, 0, 128, 7, 0]), (20, [4, 0, 5], [50, 1, 2, 1005, 1002, 1128, 3, 6, 0, 2, 1, 0, 0, -1, 2, 14, 0, 6, 4, 2, 1, 0, 0, 1, 3, 1, 2, 2, 1, 5, 0, 9, 4, 5, 3, 1, 128, 1, 0, 0, 1, 1, 2]), (20, [5], [50, 0, 0, 0, 2, 0, -1, 1, 0])] ta ws vs := hf
  obtain ⟨f0, hf⟩ := fc_un (show (20 : Nat) < 100 from by decide) hf
  have f0 : ∀ j0 : Int, 0 ≤ j0 → j0 < 24 → (((j0 + 1) ≤ w_ei ws (w_ar ws (n_v vs 0) 2) (w_fi ws (n_v vs 0) 5)) → (((-1) ≤ w_ei ws (w_ar ws (n_v vs 0) 128) (j0)) ∧ ((w_ei ws (w_ar ws (n_v vs 0) 128) (j0) ≤ 24) ∧ ((0 ≤ w_ei ws (w_ar ws (n_v vs 0) 127) (j0)) → (((w_ei ws (w_ar ws (n_v vs 0) 127) (j0) + 1) ≤ w_ei ws (w_ar ws (n_v vs 0) 2) (w_fi ws (n_v vs 0) 5)) ∧ ((0 ≤ w_ei ws (w_ar ws (n_v vs 0) 128) (w_ei ws (w_ar ws (n_v vs 0) 127) (j0))) ∧ ((w_ei ws (w_ar ws (n_v vs 0) 128) (w_ei ws (w_ar ws (n_v vs 0) 127) (j0)) + 1) ≤ w_ei ws (w_ar ws (n_v vs 0) 128) (j0)))))))) := f0
  obtain ⟨f1, hf⟩ := fc_un (show (20 : Nat) < 100 from by decide) hf
  have f1 : (v_iv (n_v vs 4) ≤ (-1)) ∨ (((v_iv (n_v vs 4) + 1) ≤ w_ei ws (w_ar ws (n_v vs 0) 2) (w_fi ws (n_v vs 0) 5)) ∧ ((w_ei ws (w_ar ws (n_v vs 0) 128) (v_iv (n_v vs 4)) + 1) ≤ v_iv (n_v vs 5))) := f1
  obtain ⟨f2, hf⟩ := fc_un (show (20 : Nat) < 100 from by decide) hf
  have f2 : (-1) ≤ v_iv (n_v vs 5) := f2
  have cr_0_2 : ta (w_ar ws (n_v vs 0) 2) = some 152 := tv_rg (th_fd hD hth r0 (g := GG_150) rfl (k := 2) (t := (2, 0, 0, [152])) rfl rfl)
  have cr_0_127 : ta (w_ar ws (n_v vs 0) 127) = some 242 := tv_rg (th_fd hD hth r0 (g := GG_150) rfl (k := 127) (t := (2, 0, 0, [242])) rfl rfl)
  have cr_0_128 : ta (w_ar ws (n_v vs 0) 128) = some 243 := tv_rg (th_fd hD hth r0 (g := GG_150) rfl (k := 128) (t := (2, 0, 0, [243])) rfl rfl)
  have hK_0_127 : ∀ j : Int, 0 ≤ j → j < 26 → (-1) ≤ w_ei ws (w_ar ws (n_v vs 0) 127) j ∧ w_ei ws (w_ar ws (n_v vs 0) 127) j ≤ 23 := fun j h0 h1 => th_el hD hth cr_0_127 (kd := 0) (n := 26) (m := 26) (lo := (-1)) (hi := 23) (rs := []) (L := []) rfl (by decide) (j := j.toNat) (by omega)
  have hK_0_128 : ∀ j : Int, 0 ≤ j → j < 26 → (-23) ≤ w_ei ws (w_ar ws (n_v vs 0) 128) j ∧ w_ei ws (w_ar ws (n_v vs 0) 128) j ≤ 24 := fun j h0 h1 => th_el hD hth cr_0_128 (kd := 0) (n := 26) (m := 26) (lo := (-23)) (hi := 24) (rs := []) (L := []) rfl (by decide) (j := j.toNat) (by omega)
  obtain ⟨x, ex, hx⟩ := iv_ex (ta := ta) (lo := (-2)) (hi := 60) (z := (-1) + (1 * v_iv (n_v vs 5) + 0)) (by omega) (by omega) (by omega) (by omega)
  have ex2 : v_iv (Value.int x) = (-1) + (1 * v_iv (n_v vs 5) + 0) := ex
  have ex3 : (-2) ≤ v_iv (Value.int x) ∧ v_iv (Value.int x) ≤ 60 := tv_rng hx
  have e_0 : n_v (vs ++ [Value.int x]) 0 = n_v vs 0 := n_v_old (by rw [hl]; decide)
  have e_4 : n_v (vs ++ [Value.int x]) 4 = n_v vs 4 := n_v_old (by rw [hl]; decide)
  have e_6 : n_v (vs ++ [Value.int x]) 6 = Value.int x := n_v_new hl
  have nf0 : fc_1 (20, [0], [50, 1, 3, 5, 2, 128, 127, 5, 2, 0, 24, 4, 14, 0, 6, 4, 2, 7, 0, 0, 1, 3, 0, 2, 2, 0, 5, 2, 9, 0, 2, 0, -1, 3, 0, 128, 7, 0, 2, 9, 0, 5, 3, 0, 128, 7, 0, 0, 24, 4, 9, 0, 2, 0, 0, 3, 0, 127, 7, 0, 2, 17, 0, 9, 4, 5, 3, 0, 127, 7, 0, 0, 1, 3, 0, 2, 2, 0, 5, 2, 12, 0, 2, 0, 0, 3, 0, 128, 3, 0, 127, 7, 0, 0, 12, 4, 8, 3, 0, 128, 3, 0, 127, 7, 0, 0, 1, 3, 0, 128, 7, 0]) ws (vs ++ [Value.int x]) := by
    refine ⟨fun n hn => ?_, ?_⟩
    · have hn : n ∈ [0] := hn
      rw [List.length_append, hl]
      simp only [List.mem_cons, List.not_mem_nil, or_false] at hn
      show n < 6 + 1; omega
    · show ∀ j0 : Int, 0 ≤ j0 → j0 < 24 → (((j0 + 1) ≤ w_ei ws (w_ar ws (n_v (vs ++ [Value.int x]) 0) 2) (w_fi ws (n_v (vs ++ [Value.int x]) 0) 5)) → (((-1) ≤ w_ei ws (w_ar ws (n_v (vs ++ [Value.int x]) 0) 128) (j0)) ∧ ((w_ei ws (w_ar ws (n_v (vs ++ [Value.int x]) 0) 128) (j0) ≤ 24) ∧ ((0 ≤ w_ei ws (w_ar ws (n_v (vs ++ [Value.int x]) 0) 127) (j0)) → (((w_ei ws (w_ar ws (n_v (vs ++ [Value.int x]) 0) 127) (j0) + 1) ≤ w_ei ws (w_ar ws (n_v (vs ++ [Value.int x]) 0) 2) (w_fi ws (n_v (vs ++ [Value.int x]) 0) 5)) ∧ ((0 ≤ w_ei ws (w_ar ws (n_v (vs ++ [Value.int x]) 0) 128) (w_ei ws (w_ar ws (n_v (vs ++ [Value.int x]) 0) 127) (j0))) ∧ ((w_ei ws (w_ar ws (n_v (vs ++ [Value.int x]) 0) 128) (w_ei ws (w_ar ws (n_v (vs ++ [Value.int x]) 0) 127) (j0)) + 1) ≤ w_ei ws (w_ar ws (n_v (vs ++ [Value.int x]) 0) 128) (j0))))))))
      rw [e_0]
      first | omega | grind
  have nf1 : fc_1 (20, [4, 0, 6], [50, 1, 2, 1005, 1002, 1128, 3, 6, 0, 2, 1, 0, 0, -1, 2, 14, 0, 6, 4, 2, 1, 0, 0, 1, 3, 1, 2, 2, 1, 5, 0, 9, 4, 5, 3, 1, 128, 1, 0, 0, 0, 1, 2]) ws (vs ++ [Value.int x]) := by
    refine ⟨fun n hn => ?_, ?_⟩
    · have hn : n ∈ [4, 0, 6] := hn
      rw [List.length_append, hl]
      simp only [List.mem_cons, List.not_mem_nil, or_false] at hn
      show n < 6 + 1; omega
    · show (v_iv (n_v (vs ++ [Value.int x]) 4) ≤ (-1)) ∨ (((v_iv (n_v (vs ++ [Value.int x]) 4) + 1) ≤ w_ei ws (w_ar ws (n_v (vs ++ [Value.int x]) 0) 2) (w_fi ws (n_v (vs ++ [Value.int x]) 0) 5)) ∧ ((w_ei ws (w_ar ws (n_v (vs ++ [Value.int x]) 0) 128) (v_iv (n_v (vs ++ [Value.int x]) 4)) + 0) ≤ v_iv (n_v (vs ++ [Value.int x]) 6)))
      rw [e_0]
      rw [e_4]
      rw [e_6]
      first | omega | grind
  obtain ⟨x0, e0, _, _⟩ := tv_int t5 rfl
  have e1 : v_iv (n_v vs 5) = x0.toInt := by rw [e0]; rfl
  have ho : sy_ofs (vs ++ [Value.int x]) (6, 5, -1000000000000, -1) := by
    refine ⟨x, x0, by rw [List.getElem?_append_right (by rw [hl]; decide), hl]; rfl, ?_, ?_, ?_⟩
    · rw [List.getElem?_append_left (by rw [hl]; decide)]; exact n_v_some (by rw [hl]; decide) e0
    · show x0.toInt + (-1000000000000) ≤ x.toInt; omega
    · show x.toInt ≤ x0.toInt + (-1); omega
  exact ⟨(fun _ h => (by cases h)), [Value.int x], ag_one hx, List.forall_mem_cons.mpr ⟨⟨show (20 : Nat) < 100 from by decide, nf0⟩, List.forall_mem_cons.mpr ⟨⟨show (20 : Nat) < 100 from by decide, nf1⟩, (fun _ h => (by cases h))⟩⟩, List.forall_mem_cons.mpr ⟨ho, (fun _ h => (by cases h))⟩⟩
def n_Mo_isAhead_an : List an_T := [(3, [(0, (2, 0, 0, [150])), (1, (0, 0, 23, [])), (2, (0, -1, 23, [])), (3, (0, 0, 23, [])), (4, (0, -1, 23, []))], [], (0, 0), [(0, 0, 99997), (2, 5, -2), (0, 0, 100000)], [(1, 2, -1000000000000, 24), (1, 3, -1000000000000, 23), (1, 4, -1000000000000, 24), (2, 1, -1000000000000, 23), (2, 3, -1000000000000, 23), (2, 4, -1000000000000, 24), (3, 1, -1000000000000, 23), (3, 2, -1000000000000, 24), (3, 4, -1000000000000, 24), (4, 1, -1000000000000, 23), (4, 2, -1000000000000, 24), (4, 3, -1000000000000, 23)], [], [], 0, [(0, -2, 60, [])], [(20, [0], [50, 1, 3, 5, 2, 128, 127, 5, 2, 0, 24, 4, 14, 0, 6, 4, 2, 7, 0, 0, 1, 3, 0, 2, 2, 0, 5, 2, 9, 0, 2, 0, -1, 3, 0, 128, 7, 0, 2, 9, 0, 5, 3, 0, 128, 7, 0, 0, 24, 4, 9, 0, 2, 0, 0, 3, 0, 127, 7, 0, 2, 17, 0, 9, 4, 5, 3, 0, 127, 7, 0, 0, 1, 3, 0, 2, 2, 0, 5, 2, 12, 0, 2, 0, 0, 3, 0, 128, 3, 0, 127, 7, 0, 0, 12, 4, 8, 3, 0, 128, 3, 0, 127, 7, 0, 0, 1, 3, 0, 128, 7, 0]), (20, [4, 0, 5], [50, 1, 2, 1005, 1002, 1128, 3, 6, 0, 2, 1, 0, 0, -1, 2, 14, 0, 6, 4, 2, 1, 0, 0, 1, 3, 1, 2, 2, 1, 5, 0, 9, 4, 5, 3, 1, 128, 1, 0, 0, 0, 1, 2])]), (28, [(0, (2, 0, 0, [150])), (1, (0, 0, 23, [])), (2, (0, -1, 23, [])), (3, (0, 0, 23, [])), (4, (0, -1, 23, []))], [], (0, 0), [(0, 0, 99997), (2, 5, -2), (0, 0, 99972)], [(1, 2, -1000000000000, 24), (1, 3, -1000000000000, 23), (1, 4, -1000000000000, 24), (2, 1, -1000000000000, 23), (2, 3, -1000000000000, 23), (2, 4, -1000000000000, 24), (3, 1, -1000000000000, 23), (3, 2, -1000000000000, 24), (3, 4, -1000000000000, 24), (4, 1, -1000000000000, 23), (4, 2, -1000000000000, 24), (4, 3, -1000000000000, 23)], [], [], 0, [(0, -2, 60, [])], [(20, [0], [50, 1, 3, 5, 2, 128, 127, 5, 2, 0, 24, 4, 14, 0, 6, 4, 2, 7, 0, 0, 1, 3, 0, 2, 2, 0, 5, 2, 9, 0, 2, 0, -1, 3, 0, 128, 7, 0, 2, 9, 0, 5, 3, 0, 128, 7, 0, 0, 24, 4, 9, 0, 2, 0, 0, 3, 0, 127, 7, 0, 2, 17, 0, 9, 4, 5, 3, 0, 127, 7, 0, 0, 1, 3, 0, 2, 2, 0, 5, 2, 12, 0, 2, 0, 0, 3, 0, 128, 3, 0, 127, 7, 0, 0, 12, 4, 8, 3, 0, 128, 3, 0, 127, 7, 0, 0, 1, 3, 0, 128, 7, 0]), (20, [4, 0, 5], [50, 1, 2, 1005, 1002, 1128, 3, 6, 0, 2, 1, 0, 0, -1, 2, 14, 0, 6, 4, 2, 1, 0, 0, 1, 3, 1, 2, 2, 1, 5, 0, 9, 4, 5, 3, 1, 128, 1, 0, 0, 1, 1, 2]), (20, [5], [50, 0, 0, 0, 2, 0, -1, 1, 0])])]
def t_Mo_isAhead_ct : ct_L := []
set_option maxRecDepth 100000 in
theorem c_Mo_isAhead {l : Launch} {D : va_G} {kA : Nat → ClassId} : ct_ok l D kA GG y_Mo_isAhead z_Mo_isAhead e_Mo_isAhead := chk_all_ok (FT := [(290, 13, 127)]) (PT := []) (CT := t_Mo_isAhead_ct) (KT := []) (NT := []) (AN := n_Mo_isAhead_an) (OT := [o_Mo_isAhead_0, o_Mo_isAhead_1, o_Mo_isAhead_2]) 3 200 (List.forall_mem_cons.mpr ⟨oo_Mo_isAhead_0, List.forall_mem_cons.mpr ⟨oo_Mo_isAhead_1, List.forall_mem_cons.mpr ⟨oo_Mo_isAhead_2, List.forall_mem_nil _⟩⟩⟩) (by decide +kernel) ⟨List.forall_mem_cons.mpr ⟨gf_Mo_290, List.forall_mem_nil _⟩, List.forall_mem_nil _, List.forall_mem_nil _, List.forall_mem_nil _, List.forall_mem_nil _, GG_pl⟩ (by decide +kernel)
def o_Mo_isUnder_0 : or_T := (2, 3, [(0, (2, 0, 0, [150])), (1, (0, 0, 23, []))], [(20, [0], [50, 1, 3, 5, 2, 128, 127, 5, 2, 0, 24, 4, 14, 0, 6, 4, 2, 7, 0, 0, 1, 3, 0, 2, 2, 0, 5, 2, 9, 0, 2, 0, -1, 3, 0, 128, 7, 0, 2, 9, 0, 5, 3, 0, 128, 7, 0, 0, 24, 4, 9, 0, 2, 0, 0, 3, 0, 127, 7, 0, 2, 17, 0, 9, 4, 5, 3, 0, 127, 7, 0, 0, 1, 3, 0, 2, 2, 0, 5, 2, 12, 0, 2, 0, 0, 3, 0, 128, 3, 0, 127, 7, 0, 0, 12, 4, 8, 3, 0, 128, 3, 0, 127, 7, 0, 0, 1, 3, 0, 128, 7, 0]), (20, [1, 0], [30, -1, 1, 0, 0, -1, 3, 2005000])], [], [(0, -2, 60, [])], [(20, [0], [50, 1, 3, 5, 2, 128, 127, 5, 2, 0, 24, 4, 14, 0, 6, 4, 2, 7, 0, 0, 1, 3, 0, 2, 2, 0, 5, 2, 9, 0, 2, 0, -1, 3, 0, 128, 7, 0, 2, 9, 0, 5, 3, 0, 128, 7, 0, 0, 24, 4, 9, 0, 2, 0, 0, 3, 0, 127, 7, 0, 2, 17, 0, 9, 4, 5, 3, 0, 127, 7, 0, 0, 1, 3, 0, 2, 2, 0, 5, 2, 12, 0, 2, 0, 0, 3, 0, 128, 3, 0, 127, 7, 0, 0, 12, 4, 8, 3, 0, 128, 3, 0, 127, 7, 0, 0, 1, 3, 0, 128, 7, 0]), (20, [1, 0, 3], [50, 1, 2, 1005, 1002, 1128, 3, 6, 0, 2, 1, 0, 0, -1, 2, 14, 0, 6, 4, 2, 1, 0, 0, 1, 3, 1, 2, 2, 1, 5, 0, 9, 4, 5, 3, 1, 128, 1, 0, 0, 0, 1, 2])], [], [])
theorem oo_Mo_isUnder_0 {kA : Nat → ClassId} : or_ok kA GG o_Mo_isUnder_0 := by
  intro A ta ws vs hD hth hl hk hds hf
  have hl : vs.length = 3 := hl
  have hk : ∀ q ∈ ([(0, (2, 0, 0, [150])), (1, (0, 0, 23, []))] : List (Nat × tv_T)), tv_ok ta q.2 (n_v vs q.1) := hk
  obtain ⟨t0, hk⟩ := List.forall_mem_cons.mp hk
  have t0 : tv_ok ta (2, 0, 0, [150]) (n_v vs 0) := t0
  have r0 : ta (v_ad (n_v vs 0)) = some 150 := tv_rg t0
  obtain ⟨t1, hk⟩ := List.forall_mem_cons.mp hk
  have t1 : tv_ok ta (0, 0, 23, []) (n_v vs 1) := t1
  have k1 : 0 ≤ v_iv (n_v vs 1) ∧ v_iv (n_v vs 1) ≤ 23 := tv_rng t1
  have hf : fc_ok [(20, [0], [50, 1, 3, 5, 2, 128, 127, 5, 2, 0, 24, 4, 14, 0, 6, 4, 2, 7, 0, 0, 1, 3, 0, 2, 2, 0, 5, 2, 9, 0, 2, 0, -1, 3, 0, 128, 7, 0, 2, 9, 0, 5, 3, 0, 128, 7, 0, 0, 24, 4, 9, 0, 2, 0, 0, 3, 0, 127, 7, 0, 2, 17, 0, 9, 4, 5, 3, 0, 127, 7, 0, 0, 1, 3, 0, 2, 2, 0, 5, 2, 12, 0, 2, 0, 0, 3, 0, 128, 3, 0, 127, 7, 0, 0, 12, 4, 8, 3, 0, 128, 3, 0, 127, 7, 0, 0, 1, 3, 0, 128, 7, 0]), (20, [1, 0], [30, -1, 1, 0, 0, -1, 3, 2005000])] ta ws vs := hf
  obtain ⟨f0, hf⟩ := fc_un (show (20 : Nat) < 100 from by decide) hf
  have f0 : ∀ j0 : Int, 0 ≤ j0 → j0 < 24 → (((j0 + 1) ≤ w_ei ws (w_ar ws (n_v vs 0) 2) (w_fi ws (n_v vs 0) 5)) → (((-1) ≤ w_ei ws (w_ar ws (n_v vs 0) 128) (j0)) ∧ ((w_ei ws (w_ar ws (n_v vs 0) 128) (j0) ≤ 24) ∧ ((0 ≤ w_ei ws (w_ar ws (n_v vs 0) 127) (j0)) → (((w_ei ws (w_ar ws (n_v vs 0) 127) (j0) + 1) ≤ w_ei ws (w_ar ws (n_v vs 0) 2) (w_fi ws (n_v vs 0) 5)) ∧ ((0 ≤ w_ei ws (w_ar ws (n_v vs 0) 128) (w_ei ws (w_ar ws (n_v vs 0) 127) (j0))) ∧ ((w_ei ws (w_ar ws (n_v vs 0) 128) (w_ei ws (w_ar ws (n_v vs 0) 127) (j0)) + 1) ≤ w_ei ws (w_ar ws (n_v vs 0) 128) (j0)))))))) := f0
  obtain ⟨f1, hf⟩ := fc_un (show (20 : Nat) < 100 from by decide) hf
  have f1 : 1 * v_iv (n_v vs 1) + ((-1) * w_el ws (w_ar ws (n_v vs 0) 2) (w_fi ws (n_v vs 0) 5 + 0).toNat + 0) ≤ (-1) := f1
  have cr_0_2 : ta (w_ar ws (n_v vs 0) 2) = some 152 := tv_rg (th_fd hD hth r0 (g := GG_150) rfl (k := 2) (t := (2, 0, 0, [152])) rfl rfl)
  have cr_0_127 : ta (w_ar ws (n_v vs 0) 127) = some 242 := tv_rg (th_fd hD hth r0 (g := GG_150) rfl (k := 127) (t := (2, 0, 0, [242])) rfl rfl)
  have cr_0_128 : ta (w_ar ws (n_v vs 0) 128) = some 243 := tv_rg (th_fd hD hth r0 (g := GG_150) rfl (k := 128) (t := (2, 0, 0, [243])) rfl rfl)
  have br_0_2_F5_0_0 : w_ei ws (w_ar ws (n_v vs 0) 2) (w_fi ws (n_v vs 0) 5 + 0) = w_el ws (w_ar ws (n_v vs 0) 2) (w_fi ws (n_v vs 0) 5 + 0).toNat := rfl
  have hK_0_127 : ∀ j : Int, 0 ≤ j → j < 26 → (-1) ≤ w_ei ws (w_ar ws (n_v vs 0) 127) j ∧ w_ei ws (w_ar ws (n_v vs 0) 127) j ≤ 23 := fun j h0 h1 => th_el hD hth cr_0_127 (kd := 0) (n := 26) (m := 26) (lo := (-1)) (hi := 23) (rs := []) (L := []) rfl (by decide) (j := j.toNat) (by omega)
  have hK_0_128 : ∀ j : Int, 0 ≤ j → j < 26 → (-23) ≤ w_ei ws (w_ar ws (n_v vs 0) 128) j ∧ w_ei ws (w_ar ws (n_v vs 0) 128) j ≤ 24 := fun j h0 h1 => th_el hD hth cr_0_128 (kd := 0) (n := 26) (m := 26) (lo := (-23)) (hi := 24) (rs := []) (L := []) rfl (by decide) (j := j.toNat) (by omega)
  obtain ⟨x, ex, hx⟩ := iv_ex (ta := ta) (lo := (-2)) (hi := 60) (z := 60) (by omega) (by omega) (by omega) (by omega)
  have ex2 : v_iv (Value.int x) = 60 := ex
  have ex3 : (-2) ≤ v_iv (Value.int x) ∧ v_iv (Value.int x) ≤ 60 := tv_rng hx
  have e_0 : n_v (vs ++ [Value.int x]) 0 = n_v vs 0 := n_v_old (by rw [hl]; decide)
  have e_1 : n_v (vs ++ [Value.int x]) 1 = n_v vs 1 := n_v_old (by rw [hl]; decide)
  have e_3 : n_v (vs ++ [Value.int x]) 3 = Value.int x := n_v_new hl
  have nf0 : fc_1 (20, [0], [50, 1, 3, 5, 2, 128, 127, 5, 2, 0, 24, 4, 14, 0, 6, 4, 2, 7, 0, 0, 1, 3, 0, 2, 2, 0, 5, 2, 9, 0, 2, 0, -1, 3, 0, 128, 7, 0, 2, 9, 0, 5, 3, 0, 128, 7, 0, 0, 24, 4, 9, 0, 2, 0, 0, 3, 0, 127, 7, 0, 2, 17, 0, 9, 4, 5, 3, 0, 127, 7, 0, 0, 1, 3, 0, 2, 2, 0, 5, 2, 12, 0, 2, 0, 0, 3, 0, 128, 3, 0, 127, 7, 0, 0, 12, 4, 8, 3, 0, 128, 3, 0, 127, 7, 0, 0, 1, 3, 0, 128, 7, 0]) ws (vs ++ [Value.int x]) := by
    refine ⟨fun n hn => ?_, ?_⟩
    · have hn : n ∈ [0] := hn
      rw [List.length_append, hl]
      simp only [List.mem_cons, List.not_mem_nil, or_false] at hn
      show n < 3 + 1; omega
    · show ∀ j0 : Int, 0 ≤ j0 → j0 < 24 → (((j0 + 1) ≤ w_ei ws (w_ar ws (n_v (vs ++ [Value.int x]) 0) 2) (w_fi ws (n_v (vs ++ [Value.int x]) 0) 5)) → (((-1) ≤ w_ei ws (w_ar ws (n_v (vs ++ [Value.int x]) 0) 128) (j0)) ∧ ((w_ei ws (w_ar ws (n_v (vs ++ [Value.int x]) 0) 128) (j0) ≤ 24) ∧ ((0 ≤ w_ei ws (w_ar ws (n_v (vs ++ [Value.int x]) 0) 127) (j0)) → (((w_ei ws (w_ar ws (n_v (vs ++ [Value.int x]) 0) 127) (j0) + 1) ≤ w_ei ws (w_ar ws (n_v (vs ++ [Value.int x]) 0) 2) (w_fi ws (n_v (vs ++ [Value.int x]) 0) 5)) ∧ ((0 ≤ w_ei ws (w_ar ws (n_v (vs ++ [Value.int x]) 0) 128) (w_ei ws (w_ar ws (n_v (vs ++ [Value.int x]) 0) 127) (j0))) ∧ ((w_ei ws (w_ar ws (n_v (vs ++ [Value.int x]) 0) 128) (w_ei ws (w_ar ws (n_v (vs ++ [Value.int x]) 0) 127) (j0)) + 1) ≤ w_ei ws (w_ar ws (n_v (vs ++ [Value.int x]) 0) 128) (j0))))))))
      rw [e_0]
      first | omega | grind
  have nf1 : fc_1 (20, [1, 0, 3], [50, 1, 2, 1005, 1002, 1128, 3, 6, 0, 2, 1, 0, 0, -1, 2, 14, 0, 6, 4, 2, 1, 0, 0, 1, 3, 1, 2, 2, 1, 5, 0, 9, 4, 5, 3, 1, 128, 1, 0, 0, 0, 1, 2]) ws (vs ++ [Value.int x]) := by
    refine ⟨fun n hn => ?_, ?_⟩
    · have hn : n ∈ [1, 0, 3] := hn
      rw [List.length_append, hl]
      simp only [List.mem_cons, List.not_mem_nil, or_false] at hn
      show n < 3 + 1; omega
    · show (v_iv (n_v (vs ++ [Value.int x]) 1) ≤ (-1)) ∨ (((v_iv (n_v (vs ++ [Value.int x]) 1) + 1) ≤ w_ei ws (w_ar ws (n_v (vs ++ [Value.int x]) 0) 2) (w_fi ws (n_v (vs ++ [Value.int x]) 0) 5)) ∧ ((w_ei ws (w_ar ws (n_v (vs ++ [Value.int x]) 0) 128) (v_iv (n_v (vs ++ [Value.int x]) 1)) + 0) ≤ v_iv (n_v (vs ++ [Value.int x]) 3)))
      rw [e_0]
      rw [e_1]
      rw [e_3]
      first | omega | grind
  exact ⟨(fun _ h => (by cases h)), [Value.int x], ag_one hx, List.forall_mem_cons.mpr ⟨⟨show (20 : Nat) < 100 from by decide, nf0⟩, List.forall_mem_cons.mpr ⟨⟨show (20 : Nat) < 100 from by decide, nf1⟩, (fun _ h => (by cases h))⟩⟩, (fun _ h => (by cases h))⟩
def o_Mo_isUnder_1 : or_T := (18, 7, [(0, (2, 0, 0, [150])), (2, (0, 0, 23, [])), (3, (0, 0, 23, [])), (4, (0, -2, 60, [])), (5, (2, 0, 0, [242])), (6, (0, -1, 23, []))], [(10, [6, 5, 3], []), (9, [5, 0], [127]), (8, [3], [3]), (7, [3, 2], [1]), (20, [0], [50, 1, 3, 5, 2, 128, 127, 5, 2, 0, 24, 4, 14, 0, 6, 4, 2, 7, 0, 0, 1, 3, 0, 2, 2, 0, 5, 2, 9, 0, 2, 0, -1, 3, 0, 128, 7, 0, 2, 9, 0, 5, 3, 0, 128, 7, 0, 0, 24, 4, 9, 0, 2, 0, 0, 3, 0, 127, 7, 0, 2, 17, 0, 9, 4, 5, 3, 0, 127, 7, 0, 0, 1, 3, 0, 2, 2, 0, 5, 2, 12, 0, 2, 0, 0, 3, 0, 128, 3, 0, 127, 7, 0, 0, 12, 4, 8, 3, 0, 128, 3, 0, 127, 7, 0, 0, 1, 3, 0, 128, 7, 0]), (20, [3, 0, 4], [50, 1, 2, 1005, 1002, 1128, 3, 6, 0, 2, 1, 0, 0, -1, 2, 14, 0, 6, 4, 2, 1, 0, 0, 1, 3, 1, 2, 2, 1, 5, 0, 9, 4, 5, 3, 1, 128, 1, 0, 0, 0, 1, 2])], [], [(0, -2, 60, [])], [(20, [0], [50, 1, 3, 5, 2, 128, 127, 5, 2, 0, 24, 4, 14, 0, 6, 4, 2, 7, 0, 0, 1, 3, 0, 2, 2, 0, 5, 2, 9, 0, 2, 0, -1, 3, 0, 128, 7, 0, 2, 9, 0, 5, 3, 0, 128, 7, 0, 0, 24, 4, 9, 0, 2, 0, 0, 3, 0, 127, 7, 0, 2, 17, 0, 9, 4, 5, 3, 0, 127, 7, 0, 0, 1, 3, 0, 2, 2, 0, 5, 2, 12, 0, 2, 0, 0, 3, 0, 128, 3, 0, 127, 7, 0, 0, 12, 4, 8, 3, 0, 128, 3, 0, 127, 7, 0, 0, 1, 3, 0, 128, 7, 0]), (20, [6, 0, 7], [50, 1, 2, 1005, 1002, 1128, 3, 6, 0, 2, 1, 0, 0, -1, 2, 14, 0, 6, 4, 2, 1, 0, 0, 1, 3, 1, 2, 2, 1, 5, 0, 9, 4, 5, 3, 1, 128, 1, 0, 0, 1, 1, 2]), (20, [7], [50, 0, 0, 0, 2, 0, -1, 1, 0])], [(7, 4, 0, 0)], [(2, 3, -4294967296, 24), (3, 2, -4294967296, 23)])
theorem oo_Mo_isUnder_1 {kA : Nat → ClassId} : or_ok kA GG o_Mo_isUnder_1 := by
  intro A ta ws vs hD hth hl hk hds hf
  have hl : vs.length = 7 := hl
  have hk : ∀ q ∈ ([(0, (2, 0, 0, [150])), (2, (0, 0, 23, [])), (3, (0, 0, 23, [])), (4, (0, -2, 60, [])), (5, (2, 0, 0, [242])), (6, (0, -1, 23, []))] : List (Nat × tv_T)), tv_ok ta q.2 (n_v vs q.1) := hk
  obtain ⟨t0, hk⟩ := List.forall_mem_cons.mp hk
  have t0 : tv_ok ta (2, 0, 0, [150]) (n_v vs 0) := t0
  have r0 : ta (v_ad (n_v vs 0)) = some 150 := tv_rg t0
  obtain ⟨t2, hk⟩ := List.forall_mem_cons.mp hk
  have t2 : tv_ok ta (0, 0, 23, []) (n_v vs 2) := t2
  have k2 : 0 ≤ v_iv (n_v vs 2) ∧ v_iv (n_v vs 2) ≤ 23 := tv_rng t2
  obtain ⟨t3, hk⟩ := List.forall_mem_cons.mp hk
  have t3 : tv_ok ta (0, 0, 23, []) (n_v vs 3) := t3
  have k3 : 0 ≤ v_iv (n_v vs 3) ∧ v_iv (n_v vs 3) ≤ 23 := tv_rng t3
  obtain ⟨t4, hk⟩ := List.forall_mem_cons.mp hk
  have t4 : tv_ok ta (0, -2, 60, []) (n_v vs 4) := t4
  have k4 : (-2) ≤ v_iv (n_v vs 4) ∧ v_iv (n_v vs 4) ≤ 60 := tv_rng t4
  obtain ⟨t5, hk⟩ := List.forall_mem_cons.mp hk
  have t5 : tv_ok ta (2, 0, 0, [242]) (n_v vs 5) := t5
  have r5 : ta (v_ad (n_v vs 5)) = some 242 := tv_rg t5
  obtain ⟨t6, hk⟩ := List.forall_mem_cons.mp hk
  have t6 : tv_ok ta (0, -1, 23, []) (n_v vs 6) := t6
  have k6 : (-1) ≤ v_iv (n_v vs 6) ∧ v_iv (n_v vs 6) ≤ 23 := tv_rng t6
  have hds : ∀ q ∈ ([(2, 3, -4294967296, 24), (3, 2, -4294967296, 23)] : List of_T), n_iv vs q.2.1 + q.2.2.1 ≤ n_iv vs q.1 ∧ n_iv vs q.1 ≤ n_iv vs q.2.1 + q.2.2.2 := hds
  obtain ⟨d0, hds⟩ := List.forall_mem_cons.mp hds
  have d0 : v_iv (n_v vs 3) + (-4294967296) ≤ v_iv (n_v vs 2) ∧ v_iv (n_v vs 2) ≤ v_iv (n_v vs 3) + 24 := d0
  obtain ⟨d1, hds⟩ := List.forall_mem_cons.mp hds
  have d1 : v_iv (n_v vs 2) + (-4294967296) ≤ v_iv (n_v vs 3) ∧ v_iv (n_v vs 3) ≤ v_iv (n_v vs 2) + 23 := d1
  have hf : fc_ok [(10, [6, 5, 3], []), (9, [5, 0], [127]), (8, [3], [3]), (7, [3, 2], [1]), (20, [0], [50, 1, 3, 5, 2, 128, 127, 5, 2, 0, 24, 4, 14, 0, 6, 4, 2, 7, 0, 0, 1, 3, 0, 2, 2, 0, 5, 2, 9, 0, 2, 0, -1, 3, 0, 128, 7, 0, 2, 9, 0, 5, 3, 0, 128, 7, 0, 0, 24, 4, 9, 0, 2, 0, 0, 3, 0, 127, 7, 0, 2, 17, 0, 9, 4, 5, 3, 0, 127, 7, 0, 0, 1, 3, 0, 2, 2, 0, 5, 2, 12, 0, 2, 0, 0, 3, 0, 128, 3, 0, 127, 7, 0, 0, 12, 4, 8, 3, 0, 128, 3, 0, 127, 7, 0, 0, 1, 3, 0, 128, 7, 0]), (20, [3, 0, 4], [50, 1, 2, 1005, 1002, 1128, 3, 6, 0, 2, 1, 0, 0, -1, 2, 14, 0, 6, 4, 2, 1, 0, 0, 1, 3, 1, 2, 2, 1, 5, 0, 9, 4, 5, 3, 1, 128, 1, 0, 0, 0, 1, 2])] ta ws vs := hf
  obtain ⟨f0, hf⟩ := fc_un (show (10 : Nat) < 100 from by decide) hf
  have f0 : v_iv (n_v vs 6) = w_el ws (v_ad (n_v vs 5)) (v_iv (n_v vs 3)).toNat := f0
  obtain ⟨f1, hf⟩ := fc_un (show (9 : Nat) < 100 from by decide) hf
  have f1 : n_v vs 5 = w_fd ws (v_ad (n_v vs 0)) 127 := f1
  obtain ⟨f2, hf⟩ := fc_un (show (8 : Nat) < 100 from by decide) hf
  have f2 : 0 ≤ v_iv (n_v vs 3) := f2
  obtain ⟨f3, hf⟩ := fc_un (show (7 : Nat) < 100 from by decide) hf
  have f3 : v_iv (n_v vs 3) ≠ v_iv (n_v vs 2) := f3
  obtain ⟨f4, hf⟩ := fc_un (show (20 : Nat) < 100 from by decide) hf
  have f4 : ∀ j0 : Int, 0 ≤ j0 → j0 < 24 → (((j0 + 1) ≤ w_ei ws (w_ar ws (n_v vs 0) 2) (w_fi ws (n_v vs 0) 5)) → (((-1) ≤ w_ei ws (w_ar ws (n_v vs 0) 128) (j0)) ∧ ((w_ei ws (w_ar ws (n_v vs 0) 128) (j0) ≤ 24) ∧ ((0 ≤ w_ei ws (w_ar ws (n_v vs 0) 127) (j0)) → (((w_ei ws (w_ar ws (n_v vs 0) 127) (j0) + 1) ≤ w_ei ws (w_ar ws (n_v vs 0) 2) (w_fi ws (n_v vs 0) 5)) ∧ ((0 ≤ w_ei ws (w_ar ws (n_v vs 0) 128) (w_ei ws (w_ar ws (n_v vs 0) 127) (j0))) ∧ ((w_ei ws (w_ar ws (n_v vs 0) 128) (w_ei ws (w_ar ws (n_v vs 0) 127) (j0)) + 1) ≤ w_ei ws (w_ar ws (n_v vs 0) 128) (j0)))))))) := f4
  obtain ⟨f5, hf⟩ := fc_un (show (20 : Nat) < 100 from by decide) hf
  have f5 : (v_iv (n_v vs 3) ≤ (-1)) ∨ (((v_iv (n_v vs 3) + 1) ≤ w_ei ws (w_ar ws (n_v vs 0) 2) (w_fi ws (n_v vs 0) 5)) ∧ ((w_ei ws (w_ar ws (n_v vs 0) 128) (v_iv (n_v vs 3)) + 0) ≤ v_iv (n_v vs 4))) := f5
  have cr_0_2 : ta (w_ar ws (n_v vs 0) 2) = some 152 := tv_rg (th_fd hD hth r0 (g := GG_150) rfl (k := 2) (t := (2, 0, 0, [152])) rfl rfl)
  have cr_0_127 : ta (w_ar ws (n_v vs 0) 127) = some 242 := tv_rg (th_fd hD hth r0 (g := GG_150) rfl (k := 127) (t := (2, 0, 0, [242])) rfl rfl)
  have cr_0_128 : ta (w_ar ws (n_v vs 0) 128) = some 243 := tv_rg (th_fd hD hth r0 (g := GG_150) rfl (k := 128) (t := (2, 0, 0, [243])) rfl rfl)
  have ad_5 : v_ad (n_v vs 5) = w_ar ws (n_v vs 0) 127 := congrArg v_ad f1
  rw [ad_5] at f0
  have h0 : v_iv (n_v vs 6) = w_ei ws (w_ar ws (n_v vs 0) 127) (v_iv (n_v vs 3)) := f0
  have br_0_127_3_0 : w_ei ws (w_ar ws (n_v vs 0) 127) (v_iv (n_v vs 3)) = w_el ws (w_ar ws (n_v vs 0) 127) (v_iv (n_v vs 3)).toNat := rfl
  have hK_0_127 : ∀ j : Int, 0 ≤ j → j < 26 → (-1) ≤ w_ei ws (w_ar ws (n_v vs 0) 127) j ∧ w_ei ws (w_ar ws (n_v vs 0) 127) j ≤ 23 := fun j h0 h1 => th_el hD hth cr_0_127 (kd := 0) (n := 26) (m := 26) (lo := (-1)) (hi := 23) (rs := []) (L := []) rfl (by decide) (j := j.toNat) (by omega)
  have hK_0_128 : ∀ j : Int, 0 ≤ j → j < 26 → (-23) ≤ w_ei ws (w_ar ws (n_v vs 0) 128) j ∧ w_ei ws (w_ar ws (n_v vs 0) 128) j ≤ 24 := fun j h0 h1 => th_el hD hth cr_0_128 (kd := 0) (n := 26) (m := 26) (lo := (-23)) (hi := 24) (rs := []) (L := []) rfl (by decide) (j := j.toNat) (by omega)
  obtain ⟨x, ex, hx⟩ := iv_ex (ta := ta) (lo := (-2)) (hi := 60) (z := 0 + (1 * v_iv (n_v vs 4) + 0)) (by omega) (by omega) (by omega) (by omega)
  have ex2 : v_iv (Value.int x) = 0 + (1 * v_iv (n_v vs 4) + 0) := ex
  have ex3 : (-2) ≤ v_iv (Value.int x) ∧ v_iv (Value.int x) ≤ 60 := tv_rng hx
  have e_0 : n_v (vs ++ [Value.int x]) 0 = n_v vs 0 := n_v_old (by rw [hl]; decide)
  have e_6 : n_v (vs ++ [Value.int x]) 6 = n_v vs 6 := n_v_old (by rw [hl]; decide)
  have e_7 : n_v (vs ++ [Value.int x]) 7 = Value.int x := n_v_new hl
  have nf0 : fc_1 (20, [0], [50, 1, 3, 5, 2, 128, 127, 5, 2, 0, 24, 4, 14, 0, 6, 4, 2, 7, 0, 0, 1, 3, 0, 2, 2, 0, 5, 2, 9, 0, 2, 0, -1, 3, 0, 128, 7, 0, 2, 9, 0, 5, 3, 0, 128, 7, 0, 0, 24, 4, 9, 0, 2, 0, 0, 3, 0, 127, 7, 0, 2, 17, 0, 9, 4, 5, 3, 0, 127, 7, 0, 0, 1, 3, 0, 2, 2, 0, 5, 2, 12, 0, 2, 0, 0, 3, 0, 128, 3, 0, 127, 7, 0, 0, 12, 4, 8, 3, 0, 128, 3, 0, 127, 7, 0, 0, 1, 3, 0, 128, 7, 0]) ws (vs ++ [Value.int x]) := by
    refine ⟨fun n hn => ?_, ?_⟩
    · have hn : n ∈ [0] := hn
      rw [List.length_append, hl]
      simp only [List.mem_cons, List.not_mem_nil, or_false] at hn
      show n < 7 + 1; omega
    · show ∀ j0 : Int, 0 ≤ j0 → j0 < 24 → (((j0 + 1) ≤ w_ei ws (w_ar ws (n_v (vs ++ [Value.int x]) 0) 2) (w_fi ws (n_v (vs ++ [Value.int x]) 0) 5)) → (((-1) ≤ w_ei ws (w_ar ws (n_v (vs ++ [Value.int x]) 0) 128) (j0)) ∧ ((w_ei ws (w_ar ws (n_v (vs ++ [Value.int x]) 0) 128) (j0) ≤ 24) ∧ ((0 ≤ w_ei ws (w_ar ws (n_v (vs ++ [Value.int x]) 0) 127) (j0)) → (((w_ei ws (w_ar ws (n_v (vs ++ [Value.int x]) 0) 127) (j0) + 1) ≤ w_ei ws (w_ar ws (n_v (vs ++ [Value.int x]) 0) 2) (w_fi ws (n_v (vs ++ [Value.int x]) 0) 5)) ∧ ((0 ≤ w_ei ws (w_ar ws (n_v (vs ++ [Value.int x]) 0) 128) (w_ei ws (w_ar ws (n_v (vs ++ [Value.int x]) 0) 127) (j0))) ∧ ((w_ei ws (w_ar ws (n_v (vs ++ [Value.int x]) 0) 128) (w_ei ws (w_ar ws (n_v (vs ++ [Value.int x]) 0) 127) (j0)) + 1) ≤ w_ei ws (w_ar ws (n_v (vs ++ [Value.int x]) 0) 128) (j0))))))))
      rw [e_0]
      first | omega | grind
  have nf1 : fc_1 (20, [6, 0, 7], [50, 1, 2, 1005, 1002, 1128, 3, 6, 0, 2, 1, 0, 0, -1, 2, 14, 0, 6, 4, 2, 1, 0, 0, 1, 3, 1, 2, 2, 1, 5, 0, 9, 4, 5, 3, 1, 128, 1, 0, 0, 1, 1, 2]) ws (vs ++ [Value.int x]) := by
    refine ⟨fun n hn => ?_, ?_⟩
    · have hn : n ∈ [6, 0, 7] := hn
      rw [List.length_append, hl]
      simp only [List.mem_cons, List.not_mem_nil, or_false] at hn
      show n < 7 + 1; omega
    · show (v_iv (n_v (vs ++ [Value.int x]) 6) ≤ (-1)) ∨ (((v_iv (n_v (vs ++ [Value.int x]) 6) + 1) ≤ w_ei ws (w_ar ws (n_v (vs ++ [Value.int x]) 0) 2) (w_fi ws (n_v (vs ++ [Value.int x]) 0) 5)) ∧ ((w_ei ws (w_ar ws (n_v (vs ++ [Value.int x]) 0) 128) (v_iv (n_v (vs ++ [Value.int x]) 6)) + 1) ≤ v_iv (n_v (vs ++ [Value.int x]) 7)))
      rw [e_0]
      rw [e_6]
      rw [e_7]
      first | omega | grind
  have nf2 : fc_1 (20, [7], [50, 0, 0, 0, 2, 0, -1, 1, 0]) ws (vs ++ [Value.int x]) := by
    refine ⟨fun n hn => ?_, ?_⟩
    · have hn : n ∈ [7] := hn
      rw [List.length_append, hl]
      simp only [List.mem_cons, List.not_mem_nil, or_false] at hn
      show n < 7 + 1; omega
    · show (-1) ≤ v_iv (n_v (vs ++ [Value.int x]) 7)
      rw [e_7]
      first | omega | grind
  obtain ⟨x0, e0, _, _⟩ := tv_int t4 rfl
  have e1 : v_iv (n_v vs 4) = x0.toInt := by rw [e0]; rfl
  have ho : sy_ofs (vs ++ [Value.int x]) (7, 4, 0, 0) := by
    refine ⟨x, x0, by rw [List.getElem?_append_right (by rw [hl]; decide), hl]; rfl, ?_, ?_, ?_⟩
    · rw [List.getElem?_append_left (by rw [hl]; decide)]; exact n_v_some (by rw [hl]; decide) e0
    · show x0.toInt + 0 ≤ x.toInt; omega
    · show x.toInt ≤ x0.toInt + 0; omega
  exact ⟨(fun _ h => (by cases h)), [Value.int x], ag_one hx, List.forall_mem_cons.mpr ⟨⟨show (20 : Nat) < 100 from by decide, nf0⟩, List.forall_mem_cons.mpr ⟨⟨show (20 : Nat) < 100 from by decide, nf1⟩, List.forall_mem_cons.mpr ⟨⟨show (20 : Nat) < 100 from by decide, nf2⟩, (fun _ h => (by cases h))⟩⟩⟩, List.forall_mem_cons.mpr ⟨ho, (fun _ h => (by cases h))⟩⟩
def o_Mo_isUnder_2 : or_T := (2, 5, [(0, (2, 0, 0, [150])), (3, (0, -1, 23, [])), (4, (0, -2, 60, []))], [(20, [0], [50, 1, 3, 5, 2, 128, 127, 5, 2, 0, 24, 4, 14, 0, 6, 4, 2, 7, 0, 0, 1, 3, 0, 2, 2, 0, 5, 2, 9, 0, 2, 0, -1, 3, 0, 128, 7, 0, 2, 9, 0, 5, 3, 0, 128, 7, 0, 0, 24, 4, 9, 0, 2, 0, 0, 3, 0, 127, 7, 0, 2, 17, 0, 9, 4, 5, 3, 0, 127, 7, 0, 0, 1, 3, 0, 2, 2, 0, 5, 2, 12, 0, 2, 0, 0, 3, 0, 128, 3, 0, 127, 7, 0, 0, 12, 4, 8, 3, 0, 128, 3, 0, 127, 7, 0, 0, 1, 3, 0, 128, 7, 0]), (20, [3, 0, 4], [50, 1, 2, 1005, 1002, 1128, 3, 6, 0, 2, 1, 0, 0, -1, 2, 14, 0, 6, 4, 2, 1, 0, 0, 1, 3, 1, 2, 2, 1, 5, 0, 9, 4, 5, 3, 1, 128, 1, 0, 0, 1, 1, 2]), (20, [4], [50, 0, 0, 0, 2, 0, -1, 1, 0])], [], [(0, -2, 60, [])], [(20, [0], [50, 1, 3, 5, 2, 128, 127, 5, 2, 0, 24, 4, 14, 0, 6, 4, 2, 7, 0, 0, 1, 3, 0, 2, 2, 0, 5, 2, 9, 0, 2, 0, -1, 3, 0, 128, 7, 0, 2, 9, 0, 5, 3, 0, 128, 7, 0, 0, 24, 4, 9, 0, 2, 0, 0, 3, 0, 127, 7, 0, 2, 17, 0, 9, 4, 5, 3, 0, 127, 7, 0, 0, 1, 3, 0, 2, 2, 0, 5, 2, 12, 0, 2, 0, 0, 3, 0, 128, 3, 0, 127, 7, 0, 0, 12, 4, 8, 3, 0, 128, 3, 0, 127, 7, 0, 0, 1, 3, 0, 128, 7, 0]), (20, [3, 0, 5], [50, 1, 2, 1005, 1002, 1128, 3, 6, 0, 2, 1, 0, 0, -1, 2, 14, 0, 6, 4, 2, 1, 0, 0, 1, 3, 1, 2, 2, 1, 5, 0, 9, 4, 5, 3, 1, 128, 1, 0, 0, 0, 1, 2])], [(5, 4, -1000000000000, -1)], [])
theorem oo_Mo_isUnder_2 {kA : Nat → ClassId} : or_ok kA GG o_Mo_isUnder_2 := by
  intro A ta ws vs hD hth hl hk hds hf
  have hl : vs.length = 5 := hl
  have hk : ∀ q ∈ ([(0, (2, 0, 0, [150])), (3, (0, -1, 23, [])), (4, (0, -2, 60, []))] : List (Nat × tv_T)), tv_ok ta q.2 (n_v vs q.1) := hk
  obtain ⟨t0, hk⟩ := List.forall_mem_cons.mp hk
  have t0 : tv_ok ta (2, 0, 0, [150]) (n_v vs 0) := t0
  have r0 : ta (v_ad (n_v vs 0)) = some 150 := tv_rg t0
  obtain ⟨t3, hk⟩ := List.forall_mem_cons.mp hk
  have t3 : tv_ok ta (0, -1, 23, []) (n_v vs 3) := t3
  have k3 : (-1) ≤ v_iv (n_v vs 3) ∧ v_iv (n_v vs 3) ≤ 23 := tv_rng t3
  obtain ⟨t4, hk⟩ := List.forall_mem_cons.mp hk
  have t4 : tv_ok ta (0, -2, 60, []) (n_v vs 4) := t4
  have k4 : (-2) ≤ v_iv (n_v vs 4) ∧ v_iv (n_v vs 4) ≤ 60 := tv_rng t4
  have hf : fc_ok [(20, [0], [50, 1, 3, 5, 2, 128, 127, 5, 2, 0, 24, 4, 14, 0, 6, 4, 2, 7, 0, 0, 1, 3, 0, 2, 2, 0, 5, 2, 9, 0, 2, 0, -1, 3, 0, 128, 7, 0, 2, 9, 0, 5, 3, 0, 128, 7, 0, 0, 24, 4, 9, 0, 2, 0, 0, 3, 0, 127, 7, 0, 2, 17, 0, 9, 4, 5, 3, 0, 127, 7, 0, 0, 1, 3, 0, 2, 2, 0, 5, 2, 12, 0, 2, 0, 0, 3, 0, 128, 3, 0, 127, 7, 0, 0, 12, 4, 8, 3, 0, 128, 3, 0, 127, 7, 0, 0, 1, 3, 0, 128, 7, 0]), (20, [3, 0, 4], [50, 1, 2, 1005, 1002, 1128, 3, 6, 0, 2, 1, 0, 0, -1, 2, 14, 0, 6, 4, 2, 1, 0, 0, 1, 3, 1, 2, 2, 1, 5, 0, 9, 4, 5, 3, 1, 128, 1, 0, 0, 1, 1, 2]), (20, [4], [50, 0, 0, 0, 2, 0, -1, 1, 0])] ta ws vs := hf
  obtain ⟨f0, hf⟩ := fc_un (show (20 : Nat) < 100 from by decide) hf
  have f0 : ∀ j0 : Int, 0 ≤ j0 → j0 < 24 → (((j0 + 1) ≤ w_ei ws (w_ar ws (n_v vs 0) 2) (w_fi ws (n_v vs 0) 5)) → (((-1) ≤ w_ei ws (w_ar ws (n_v vs 0) 128) (j0)) ∧ ((w_ei ws (w_ar ws (n_v vs 0) 128) (j0) ≤ 24) ∧ ((0 ≤ w_ei ws (w_ar ws (n_v vs 0) 127) (j0)) → (((w_ei ws (w_ar ws (n_v vs 0) 127) (j0) + 1) ≤ w_ei ws (w_ar ws (n_v vs 0) 2) (w_fi ws (n_v vs 0) 5)) ∧ ((0 ≤ w_ei ws (w_ar ws (n_v vs 0) 128) (w_ei ws (w_ar ws (n_v vs 0) 127) (j0))) ∧ ((w_ei ws (w_ar ws (n_v vs 0) 128) (w_ei ws (w_ar ws (n_v vs 0) 127) (j0)) + 1) ≤ w_ei ws (w_ar ws (n_v vs 0) 128) (j0)))))))) := f0
  obtain ⟨f1, hf⟩ := fc_un (show (20 : Nat) < 100 from by decide) hf
  have f1 : (v_iv (n_v vs 3) ≤ (-1)) ∨ (((v_iv (n_v vs 3) + 1) ≤ w_ei ws (w_ar ws (n_v vs 0) 2) (w_fi ws (n_v vs 0) 5)) ∧ ((w_ei ws (w_ar ws (n_v vs 0) 128) (v_iv (n_v vs 3)) + 1) ≤ v_iv (n_v vs 4))) := f1
  obtain ⟨f2, hf⟩ := fc_un (show (20 : Nat) < 100 from by decide) hf
  have f2 : (-1) ≤ v_iv (n_v vs 4) := f2
  have cr_0_2 : ta (w_ar ws (n_v vs 0) 2) = some 152 := tv_rg (th_fd hD hth r0 (g := GG_150) rfl (k := 2) (t := (2, 0, 0, [152])) rfl rfl)
  have cr_0_127 : ta (w_ar ws (n_v vs 0) 127) = some 242 := tv_rg (th_fd hD hth r0 (g := GG_150) rfl (k := 127) (t := (2, 0, 0, [242])) rfl rfl)
  have cr_0_128 : ta (w_ar ws (n_v vs 0) 128) = some 243 := tv_rg (th_fd hD hth r0 (g := GG_150) rfl (k := 128) (t := (2, 0, 0, [243])) rfl rfl)
  have hK_0_127 : ∀ j : Int, 0 ≤ j → j < 26 → (-1) ≤ w_ei ws (w_ar ws (n_v vs 0) 127) j ∧ w_ei ws (w_ar ws (n_v vs 0) 127) j ≤ 23 := fun j h0 h1 => th_el hD hth cr_0_127 (kd := 0) (n := 26) (m := 26) (lo := (-1)) (hi := 23) (rs := []) (L := []) rfl (by decide) (j := j.toNat) (by omega)
  have hK_0_128 : ∀ j : Int, 0 ≤ j → j < 26 → (-23) ≤ w_ei ws (w_ar ws (n_v vs 0) 128) j ∧ w_ei ws (w_ar ws (n_v vs 0) 128) j ≤ 24 := fun j h0 h1 => th_el hD hth cr_0_128 (kd := 0) (n := 26) (m := 26) (lo := (-23)) (hi := 24) (rs := []) (L := []) rfl (by decide) (j := j.toNat) (by omega)
  obtain ⟨x, ex, hx⟩ := iv_ex (ta := ta) (lo := (-2)) (hi := 60) (z := (-1) + (1 * v_iv (n_v vs 4) + 0)) (by omega) (by omega) (by omega) (by omega)
  have ex2 : v_iv (Value.int x) = (-1) + (1 * v_iv (n_v vs 4) + 0) := ex
  have ex3 : (-2) ≤ v_iv (Value.int x) ∧ v_iv (Value.int x) ≤ 60 := tv_rng hx
  have e_0 : n_v (vs ++ [Value.int x]) 0 = n_v vs 0 := n_v_old (by rw [hl]; decide)
  have e_3 : n_v (vs ++ [Value.int x]) 3 = n_v vs 3 := n_v_old (by rw [hl]; decide)
  have e_5 : n_v (vs ++ [Value.int x]) 5 = Value.int x := n_v_new hl
  have nf0 : fc_1 (20, [0], [50, 1, 3, 5, 2, 128, 127, 5, 2, 0, 24, 4, 14, 0, 6, 4, 2, 7, 0, 0, 1, 3, 0, 2, 2, 0, 5, 2, 9, 0, 2, 0, -1, 3, 0, 128, 7, 0, 2, 9, 0, 5, 3, 0, 128, 7, 0, 0, 24, 4, 9, 0, 2, 0, 0, 3, 0, 127, 7, 0, 2, 17, 0, 9, 4, 5, 3, 0, 127, 7, 0, 0, 1, 3, 0, 2, 2, 0, 5, 2, 12, 0, 2, 0, 0, 3, 0, 128, 3, 0, 127, 7, 0, 0, 12, 4, 8, 3, 0, 128, 3, 0, 127, 7, 0, 0, 1, 3, 0, 128, 7, 0]) ws (vs ++ [Value.int x]) := by
    refine ⟨fun n hn => ?_, ?_⟩
    · have hn : n ∈ [0] := hn
      rw [List.length_append, hl]
      simp only [List.mem_cons, List.not_mem_nil, or_false] at hn
      show n < 5 + 1; omega
    · show ∀ j0 : Int, 0 ≤ j0 → j0 < 24 → (((j0 + 1) ≤ w_ei ws (w_ar ws (n_v (vs ++ [Value.int x]) 0) 2) (w_fi ws (n_v (vs ++ [Value.int x]) 0) 5)) → (((-1) ≤ w_ei ws (w_ar ws (n_v (vs ++ [Value.int x]) 0) 128) (j0)) ∧ ((w_ei ws (w_ar ws (n_v (vs ++ [Value.int x]) 0) 128) (j0) ≤ 24) ∧ ((0 ≤ w_ei ws (w_ar ws (n_v (vs ++ [Value.int x]) 0) 127) (j0)) → (((w_ei ws (w_ar ws (n_v (vs ++ [Value.int x]) 0) 127) (j0) + 1) ≤ w_ei ws (w_ar ws (n_v (vs ++ [Value.int x]) 0) 2) (w_fi ws (n_v (vs ++ [Value.int x]) 0) 5)) ∧ ((0 ≤ w_ei ws (w_ar ws (n_v (vs ++ [Value.int x]) 0) 128) (w_ei ws (w_ar ws (n_v (vs ++ [Value.int x]) 0) 127) (j0))) ∧ ((w_ei ws (w_ar ws (n_v (vs ++ [Value.int x]) 0) 128) (w_ei ws (w_ar ws (n_v (vs ++ [Value.int x]) 0) 127) (j0)) + 1) ≤ w_ei ws (w_ar ws (n_v (vs ++ [Value.int x]) 0) 128) (j0))))))))
      rw [e_0]
      first | omega | grind
  have nf1 : fc_1 (20, [3, 0, 5], [50, 1, 2, 1005, 1002, 1128, 3, 6, 0, 2, 1, 0, 0, -1, 2, 14, 0, 6, 4, 2, 1, 0, 0, 1, 3, 1, 2, 2, 1, 5, 0, 9, 4, 5, 3, 1, 128, 1, 0, 0, 0, 1, 2]) ws (vs ++ [Value.int x]) := by
    refine ⟨fun n hn => ?_, ?_⟩
    · have hn : n ∈ [3, 0, 5] := hn
      rw [List.length_append, hl]
      simp only [List.mem_cons, List.not_mem_nil, or_false] at hn
      show n < 5 + 1; omega
    · show (v_iv (n_v (vs ++ [Value.int x]) 3) ≤ (-1)) ∨ (((v_iv (n_v (vs ++ [Value.int x]) 3) + 1) ≤ w_ei ws (w_ar ws (n_v (vs ++ [Value.int x]) 0) 2) (w_fi ws (n_v (vs ++ [Value.int x]) 0) 5)) ∧ ((w_ei ws (w_ar ws (n_v (vs ++ [Value.int x]) 0) 128) (v_iv (n_v (vs ++ [Value.int x]) 3)) + 0) ≤ v_iv (n_v (vs ++ [Value.int x]) 5)))
      rw [e_0]
      rw [e_3]
      rw [e_5]
      first | omega | grind
  obtain ⟨x0, e0, _, _⟩ := tv_int t4 rfl
  have e1 : v_iv (n_v vs 4) = x0.toInt := by rw [e0]; rfl
  have ho : sy_ofs (vs ++ [Value.int x]) (5, 4, -1000000000000, -1) := by
    refine ⟨x, x0, by rw [List.getElem?_append_right (by rw [hl]; decide), hl]; rfl, ?_, ?_, ?_⟩
    · rw [List.getElem?_append_left (by rw [hl]; decide)]; exact n_v_some (by rw [hl]; decide) e0
    · show x0.toInt + (-1000000000000) ≤ x.toInt; omega
    · show x.toInt ≤ x0.toInt + (-1); omega
  exact ⟨(fun _ h => (by cases h)), [Value.int x], ag_one hx, List.forall_mem_cons.mpr ⟨⟨show (20 : Nat) < 100 from by decide, nf0⟩, List.forall_mem_cons.mpr ⟨⟨show (20 : Nat) < 100 from by decide, nf1⟩, (fun _ h => (by cases h))⟩⟩, List.forall_mem_cons.mpr ⟨ho, (fun _ h => (by cases h))⟩⟩
def n_Mo_isUnder_an : List an_T := [(2, [(0, (2, 0, 0, [150])), (1, (0, 0, 23, [])), (2, (0, 0, 23, [])), (3, (0, -1, 23, []))], [], (0, 0), [(0, 0, 99998), (2, 4, -2), (0, 0, 100000)], [(1, 2, -1000000000000, 23), (1, 3, -1000000000000, 24), (2, 1, -1000000000000, 23), (2, 3, -1000000000000, 24), (3, 1, -1000000000000, 23), (3, 2, -1000000000000, 23)], [], [], 0, [(0, -2, 60, [])], [(20, [0], [50, 1, 3, 5, 2, 128, 127, 5, 2, 0, 24, 4, 14, 0, 6, 4, 2, 7, 0, 0, 1, 3, 0, 2, 2, 0, 5, 2, 9, 0, 2, 0, -1, 3, 0, 128, 7, 0, 2, 9, 0, 5, 3, 0, 128, 7, 0, 0, 24, 4, 9, 0, 2, 0, 0, 3, 0, 127, 7, 0, 2, 17, 0, 9, 4, 5, 3, 0, 127, 7, 0, 0, 1, 3, 0, 2, 2, 0, 5, 2, 12, 0, 2, 0, 0, 3, 0, 128, 3, 0, 127, 7, 0, 0, 12, 4, 8, 3, 0, 128, 3, 0, 127, 7, 0, 0, 1, 3, 0, 128, 7, 0]), (20, [3, 0, 4], [50, 1, 2, 1005, 1002, 1128, 3, 6, 0, 2, 1, 0, 0, -1, 2, 14, 0, 6, 4, 2, 1, 0, 0, 1, 3, 1, 2, 2, 1, 5, 0, 9, 4, 5, 3, 1, 128, 1, 0, 0, 0, 1, 2])]), (18, [(0, (2, 0, 0, [150])), (1, (0, 0, 23, [])), (2, (0, 0, 23, [])), (3, (0, -1, 23, []))], [], (0, 0), [(0, 0, 99998), (2, 4, -2), (0, 0, 99982)], [(1, 2, -1000000000000, 23), (1, 3, -1000000000000, 24), (2, 1, -1000000000000, 23), (2, 3, -1000000000000, 24), (3, 1, -1000000000000, 23), (3, 2, -1000000000000, 23)], [], [], 0, [(0, -2, 60, [])], [(20, [0], [50, 1, 3, 5, 2, 128, 127, 5, 2, 0, 24, 4, 14, 0, 6, 4, 2, 7, 0, 0, 1, 3, 0, 2, 2, 0, 5, 2, 9, 0, 2, 0, -1, 3, 0, 128, 7, 0, 2, 9, 0, 5, 3, 0, 128, 7, 0, 0, 24, 4, 9, 0, 2, 0, 0, 3, 0, 127, 7, 0, 2, 17, 0, 9, 4, 5, 3, 0, 127, 7, 0, 0, 1, 3, 0, 2, 2, 0, 5, 2, 12, 0, 2, 0, 0, 3, 0, 128, 3, 0, 127, 7, 0, 0, 12, 4, 8, 3, 0, 128, 3, 0, 127, 7, 0, 0, 1, 3, 0, 128, 7, 0]), (20, [3, 0, 4], [50, 1, 2, 1005, 1002, 1128, 3, 6, 0, 2, 1, 0, 0, -1, 2, 14, 0, 6, 4, 2, 1, 0, 0, 1, 3, 1, 2, 2, 1, 5, 0, 9, 4, 5, 3, 1, 128, 1, 0, 0, 1, 1, 2]), (20, [4], [50, 0, 0, 0, 2, 0, -1, 1, 0])])]
def t_Mo_isUnder_ct : ct_L := []
set_option maxRecDepth 100000 in
theorem c_Mo_isUnder {l : Launch} {D : va_G} {kA : Nat → ClassId} : ct_ok l D kA GG y_Mo_isUnder z_Mo_isUnder e_Mo_isUnder := chk_all_ok (FT := [(290, 13, 127)]) (PT := []) (CT := t_Mo_isUnder_ct) (KT := []) (NT := []) (AN := n_Mo_isUnder_an) (OT := [o_Mo_isUnder_0, o_Mo_isUnder_1, o_Mo_isUnder_2]) 3 200 (List.forall_mem_cons.mpr ⟨oo_Mo_isUnder_0, List.forall_mem_cons.mpr ⟨oo_Mo_isUnder_1, List.forall_mem_cons.mpr ⟨oo_Mo_isUnder_2, List.forall_mem_nil _⟩⟩⟩) (by decide +kernel) ⟨List.forall_mem_cons.mpr ⟨gf_Mo_290, List.forall_mem_nil _⟩, List.forall_mem_nil _, List.forall_mem_nil _, List.forall_mem_nil _, List.forall_mem_nil _, GG_pl⟩ (by decide +kernel)
def o_Mo_pointsOf_0 : or_T := (16, 10, [(0, (2, 0, 0, [150])), (1, (0, 0, 47, [])), (2, (2, 0, 0, [189])), (3, (0, 48, 48, [])), (4, (0, 0, 3, [])), (5, (0, 0, 144, [])), (6, (0, 0, 191, [])), (7, (0, 0, 24, [])), (8, (0, 2, 2, [])), (9, (0, 2, 26, []))], [(1, [9, 7, 8], []), (10, [7, 2, 6], []), (1, [6, 5, 1], []), (3, [5, 3, 4], []), (9, [4, 0], [139]), (9, [2, 0], [64])], [], [], [(20, [9, 0, 1], [50, 1, 1, 1139, 1064, 1, 2, 1, 0, 4, 14, 3, 1, 64, 4, 7, 6, 2, 0, 48, 2, 1, 139, 1, 2, 0, 2])], [], [(9, 7, 2, 2), (6, 1, 0, 144), (6, 5, 0, 47)])
theorem oo_Mo_pointsOf_0 {kA : Nat → ClassId} : or_ok kA GG o_Mo_pointsOf_0 := by
  intro A ta ws vs hD hth hl hk hds hf
  have hl : vs.length = 10 := hl
  have hk : ∀ q ∈ ([(0, (2, 0, 0, [150])), (1, (0, 0, 47, [])), (2, (2, 0, 0, [189])), (3, (0, 48, 48, [])), (4, (0, 0, 3, [])), (5, (0, 0, 144, [])), (6, (0, 0, 191, [])), (7, (0, 0, 24, [])), (8, (0, 2, 2, [])), (9, (0, 2, 26, []))] : List (Nat × tv_T)), tv_ok ta q.2 (n_v vs q.1) := hk
  obtain ⟨t0, hk⟩ := List.forall_mem_cons.mp hk
  have t0 : tv_ok ta (2, 0, 0, [150]) (n_v vs 0) := t0
  have r0 : ta (v_ad (n_v vs 0)) = some 150 := tv_rg t0
  obtain ⟨t1, hk⟩ := List.forall_mem_cons.mp hk
  have t1 : tv_ok ta (0, 0, 47, []) (n_v vs 1) := t1
  have k1 : 0 ≤ v_iv (n_v vs 1) ∧ v_iv (n_v vs 1) ≤ 47 := tv_rng t1
  obtain ⟨t2, hk⟩ := List.forall_mem_cons.mp hk
  have t2 : tv_ok ta (2, 0, 0, [189]) (n_v vs 2) := t2
  have r2 : ta (v_ad (n_v vs 2)) = some 189 := tv_rg t2
  obtain ⟨t3, hk⟩ := List.forall_mem_cons.mp hk
  have t3 : tv_ok ta (0, 48, 48, []) (n_v vs 3) := t3
  have k3 : 48 ≤ v_iv (n_v vs 3) ∧ v_iv (n_v vs 3) ≤ 48 := tv_rng t3
  obtain ⟨t4, hk⟩ := List.forall_mem_cons.mp hk
  have t4 : tv_ok ta (0, 0, 3, []) (n_v vs 4) := t4
  have k4 : 0 ≤ v_iv (n_v vs 4) ∧ v_iv (n_v vs 4) ≤ 3 := tv_rng t4
  obtain ⟨t5, hk⟩ := List.forall_mem_cons.mp hk
  have t5 : tv_ok ta (0, 0, 144, []) (n_v vs 5) := t5
  have k5 : 0 ≤ v_iv (n_v vs 5) ∧ v_iv (n_v vs 5) ≤ 144 := tv_rng t5
  obtain ⟨t6, hk⟩ := List.forall_mem_cons.mp hk
  have t6 : tv_ok ta (0, 0, 191, []) (n_v vs 6) := t6
  have k6 : 0 ≤ v_iv (n_v vs 6) ∧ v_iv (n_v vs 6) ≤ 191 := tv_rng t6
  obtain ⟨t7, hk⟩ := List.forall_mem_cons.mp hk
  have t7 : tv_ok ta (0, 0, 24, []) (n_v vs 7) := t7
  have k7 : 0 ≤ v_iv (n_v vs 7) ∧ v_iv (n_v vs 7) ≤ 24 := tv_rng t7
  obtain ⟨t8, hk⟩ := List.forall_mem_cons.mp hk
  have t8 : tv_ok ta (0, 2, 2, []) (n_v vs 8) := t8
  have k8 : 2 ≤ v_iv (n_v vs 8) ∧ v_iv (n_v vs 8) ≤ 2 := tv_rng t8
  obtain ⟨t9, hk⟩ := List.forall_mem_cons.mp hk
  have t9 : tv_ok ta (0, 2, 26, []) (n_v vs 9) := t9
  have k9 : 2 ≤ v_iv (n_v vs 9) ∧ v_iv (n_v vs 9) ≤ 26 := tv_rng t9
  have hds : ∀ q ∈ ([(9, 7, 2, 2), (6, 1, 0, 144), (6, 5, 0, 47)] : List of_T), n_iv vs q.2.1 + q.2.2.1 ≤ n_iv vs q.1 ∧ n_iv vs q.1 ≤ n_iv vs q.2.1 + q.2.2.2 := hds
  obtain ⟨d0, hds⟩ := List.forall_mem_cons.mp hds
  have d0 : v_iv (n_v vs 7) + 2 ≤ v_iv (n_v vs 9) ∧ v_iv (n_v vs 9) ≤ v_iv (n_v vs 7) + 2 := d0
  obtain ⟨d1, hds⟩ := List.forall_mem_cons.mp hds
  have d1 : v_iv (n_v vs 1) + 0 ≤ v_iv (n_v vs 6) ∧ v_iv (n_v vs 6) ≤ v_iv (n_v vs 1) + 144 := d1
  obtain ⟨d2, hds⟩ := List.forall_mem_cons.mp hds
  have d2 : v_iv (n_v vs 5) + 0 ≤ v_iv (n_v vs 6) ∧ v_iv (n_v vs 6) ≤ v_iv (n_v vs 5) + 47 := d2
  have hf : fc_ok [(1, [9, 7, 8], []), (10, [7, 2, 6], []), (1, [6, 5, 1], []), (3, [5, 3, 4], []), (9, [4, 0], [139]), (9, [2, 0], [64])] ta ws vs := hf
  obtain ⟨f0, hf⟩ := fc_un (show (1 : Nat) < 100 from by decide) hf
  have f0 : v_iv (n_v vs 9) = v_iv (n_v vs 7) + v_iv (n_v vs 8) := f0
  obtain ⟨f1, hf⟩ := fc_un (show (10 : Nat) < 100 from by decide) hf
  have f1 : v_iv (n_v vs 7) = w_el ws (v_ad (n_v vs 2)) (v_iv (n_v vs 6)).toNat := f1
  obtain ⟨f2, hf⟩ := fc_un (show (1 : Nat) < 100 from by decide) hf
  have f2 : v_iv (n_v vs 6) = v_iv (n_v vs 5) + v_iv (n_v vs 1) := f2
  obtain ⟨f3, hf⟩ := fc_un (show (3 : Nat) < 100 from by decide) hf
  have f3 : v_iv (n_v vs 5) = v_iv (n_v vs 3) * v_iv (n_v vs 4) := f3
  rw [show v_iv (n_v vs 3) = 48 from by omega] at f3
  obtain ⟨f4, hf⟩ := fc_un (show (9 : Nat) < 100 from by decide) hf
  have f4 : n_v vs 4 = w_fd ws (v_ad (n_v vs 0)) 139 := f4
  obtain ⟨f5, hf⟩ := fc_un (show (9 : Nat) < 100 from by decide) hf
  have f5 : n_v vs 2 = w_fd ws (v_ad (n_v vs 0)) 64 := f5
  have cr_0_64 : ta (w_ar ws (n_v vs 0) 64) = some 189 := tv_rg (th_fd hD hth r0 (g := GG_150) rfl (k := 64) (t := (2, 0, 0, [189])) rfl rfl)
  have ad_2 : v_ad (n_v vs 2) = w_ar ws (n_v vs 0) 64 := congrArg v_ad f5
  rw [ad_2] at f1
  have h1 : v_iv (n_v vs 7) = w_ei ws (w_ar ws (n_v vs 0) 64) (v_iv (n_v vs 6)) := f1
  have g4 : v_iv (n_v vs 4) = w_fi ws (n_v vs 0) 139 := congrArg v_iv f4
  have br_0_64_6_0 : w_ei ws (w_ar ws (n_v vs 0) 64) (v_iv (n_v vs 6)) = w_el ws (w_ar ws (n_v vs 0) 64) (v_iv (n_v vs 6)).toNat := rfl
  have hK_0_64 : ∀ j : Int, 0 ≤ j → j < 192 → 0 ≤ w_ei ws (w_ar ws (n_v vs 0) 64) j ∧ w_ei ws (w_ar ws (n_v vs 0) 64) j ≤ 24 := fun j h0 h1 => th_el hD hth cr_0_64 (kd := 0) (n := 192) (m := 192) (lo := 0) (hi := 24) (rs := []) (L := []) rfl (by decide) (j := j.toNat) (by omega)
  have kz_0_139 : 0 ≤ w_fi ws (n_v vs 0) 139 ∧ w_fi ws (n_v vs 0) 139 ≤ 3 := tv_rng (th_fd hD hth r0 (g := GG_150) rfl (k := 139) (t := (0, 0, 3, [])) rfl rfl)
  have nf0 : fc_1 (20, [9, 0, 1], [50, 1, 1, 1139, 1064, 1, 2, 1, 0, 4, 14, 3, 1, 64, 4, 7, 6, 2, 0, 48, 2, 1, 139, 1, 2, 0, 2]) ws (vs) := by
    refine ⟨fun n hn => ?_, ?_⟩
    · have hn : n ∈ [9, 0, 1] := hn
      rw [hl]
      simp only [List.mem_cons, List.not_mem_nil, or_false] at hn
      show n < 10; omega
    · show v_iv (n_v vs 9) = (w_ei ws (w_ar ws (n_v vs 0) 64) (((48 * w_fi ws (n_v vs 0) 139) + v_iv (n_v vs 1))) + 2)
      first | omega | grind
  refine ⟨(fun _ h => (by cases h)), [], trivial, ?_, (fun _ h => (by cases h))⟩
  rw [List.append_nil]
  exact List.forall_mem_cons.mpr ⟨⟨show (20 : Nat) < 100 from by decide, nf0⟩, (fun _ h => (by cases h))⟩
def n_Mo_pointsOf_an : List an_T := []
def t_Mo_pointsOf_ct : ct_L := []
set_option maxRecDepth 100000 in
theorem c_Mo_pointsOf {l : Launch} {D : va_G} {kA : Nat → ClassId} : ct_ok l D kA GG y_Mo_pointsOf z_Mo_pointsOf e_Mo_pointsOf := chk_all_ok (FT := [(129, 13, 64), (1020, 13, 139)]) (PT := []) (CT := t_Mo_pointsOf_ct) (KT := []) (NT := []) (AN := n_Mo_pointsOf_an) (OT := [o_Mo_pointsOf_0]) 0 200 (List.forall_mem_cons.mpr ⟨oo_Mo_pointsOf_0, List.forall_mem_nil _⟩) (by decide +kernel) ⟨List.forall_mem_cons.mpr ⟨gf_Mo_129, List.forall_mem_cons.mpr ⟨gf_Mo_1020, List.forall_mem_nil _⟩⟩, List.forall_mem_nil _, List.forall_mem_nil _, List.forall_mem_nil _, List.forall_mem_nil _, GG_pl⟩ (by decide +kernel)
def o_Mo_rowPlace_0 : or_T := (2, 3, [(0, (2, 0, 0, [150])), (1, (0, 0, 24, [])), (2, (0, 0, 0, []))], [(20, [0, 1], [50, 0, 1, 117, 6, 2, 0, 100, 1, 5, 3, 0, 117, 7, 0, 1, 1])], [], [], [(20, [2, 0, 1], [50, 0, 1, 1117, 6, 2, 0, 100, 2, 6, 0, 2, 1, 0, 7, 0, 1, 5, 3, 1, 117, 7, 0, 1, 2])], [], [])
theorem oo_Mo_rowPlace_0 {kA : Nat → ClassId} : or_ok kA GG o_Mo_rowPlace_0 := by
  intro A ta ws vs hD hth hl hk hds hf
  have hl : vs.length = 3 := hl
  have hk : ∀ q ∈ ([(0, (2, 0, 0, [150])), (1, (0, 0, 24, [])), (2, (0, 0, 0, []))] : List (Nat × tv_T)), tv_ok ta q.2 (n_v vs q.1) := hk
  obtain ⟨t0, hk⟩ := List.forall_mem_cons.mp hk
  have t0 : tv_ok ta (2, 0, 0, [150]) (n_v vs 0) := t0
  have r0 : ta (v_ad (n_v vs 0)) = some 150 := tv_rg t0
  obtain ⟨t1, hk⟩ := List.forall_mem_cons.mp hk
  have t1 : tv_ok ta (0, 0, 24, []) (n_v vs 1) := t1
  have k1 : 0 ≤ v_iv (n_v vs 1) ∧ v_iv (n_v vs 1) ≤ 24 := tv_rng t1
  obtain ⟨t2, hk⟩ := List.forall_mem_cons.mp hk
  have t2 : tv_ok ta (0, 0, 0, []) (n_v vs 2) := t2
  have k2 : 0 ≤ v_iv (n_v vs 2) ∧ v_iv (n_v vs 2) ≤ 0 := tv_rng t2
  have hf : fc_ok [(20, [0, 1], [50, 0, 1, 117, 6, 2, 0, 100, 1, 5, 3, 0, 117, 7, 0, 1, 1])] ta ws vs := hf
  obtain ⟨f0, hf⟩ := fc_un (show (20 : Nat) < 100 from by decide) hf
  have f0 : ∃ j0 : Int, 0 ≤ j0 ∧ j0 < 100 ∧ (w_ei ws (w_ar ws (n_v vs 0) 117) (j0) = v_iv (n_v vs 1)) := f0
  have cr_0_117 : ta (w_ar ws (n_v vs 0) 117) = some 234 := tv_rg (th_fd hD hth r0 (g := GG_150) rfl (k := 117) (t := (2, 0, 0, [234])) rfl rfl)
  have hK_0_117 : ∀ j : Int, 0 ≤ j → j < 100 → 0 ≤ w_ei ws (w_ar ws (n_v vs 0) 117) j ∧ w_ei ws (w_ar ws (n_v vs 0) 117) j ≤ 75 := fun j h0 h1 => th_el hD hth cr_0_117 (kd := 0) (n := 100) (m := 100) (lo := 0) (hi := 75) (rs := []) (L := []) rfl (by decide) (j := j.toNat) (by omega)
  have nf0 : fc_1 (20, [2, 0, 1], [50, 0, 1, 1117, 6, 2, 0, 100, 2, 6, 0, 2, 1, 0, 7, 0, 1, 5, 3, 1, 117, 7, 0, 1, 2]) ws (vs) := by
    refine ⟨fun n hn => ?_, ?_⟩
    · have hn : n ∈ [2, 0, 1] := hn
      rw [hl]
      simp only [List.mem_cons, List.not_mem_nil, or_false] at hn
      show n < 3; omega
    · show ∃ j0 : Int, 0 ≤ j0 ∧ j0 < 100 ∧ ((v_iv (n_v vs 2) ≤ j0) ∧ (w_ei ws (w_ar ws (n_v vs 0) 117) (j0) = v_iv (n_v vs 1)))
      first | omega | grind
  refine ⟨(fun _ h => (by cases h)), [], trivial, ?_, (fun _ h => (by cases h))⟩
  rw [List.append_nil]
  exact List.forall_mem_cons.mpr ⟨⟨show (20 : Nat) < 100 from by decide, nf0⟩, (fun _ h => (by cases h))⟩
def o_Mo_rowPlace_1 : or_T := (7, 4, [(0, (2, 0, 0, [150])), (1, (0, 0, 24, [])), (2, (0, 0, 100, [])), (3, (2, 0, 0, [234]))], [(9, [3, 0], [117]), (20, [2, 0, 1], [50, 0, 1, 1117, 6, 2, 0, 100, 2, 6, 0, 2, 1, 0, 7, 0, 1, 5, 3, 1, 117, 7, 0, 1, 2])], [(2, (0, 0, 99, []))], [], [], [], [(1, 2, -4294967296, 24)])
theorem oo_Mo_rowPlace_1 {kA : Nat → ClassId} : or_ok kA GG o_Mo_rowPlace_1 := by
  intro A ta ws vs hD hth hl hk hds hf
  have hl : vs.length = 4 := hl
  have hk : ∀ q ∈ ([(0, (2, 0, 0, [150])), (1, (0, 0, 24, [])), (2, (0, 0, 100, [])), (3, (2, 0, 0, [234]))] : List (Nat × tv_T)), tv_ok ta q.2 (n_v vs q.1) := hk
  obtain ⟨t0, hk⟩ := List.forall_mem_cons.mp hk
  have t0 : tv_ok ta (2, 0, 0, [150]) (n_v vs 0) := t0
  have r0 : ta (v_ad (n_v vs 0)) = some 150 := tv_rg t0
  obtain ⟨t1, hk⟩ := List.forall_mem_cons.mp hk
  have t1 : tv_ok ta (0, 0, 24, []) (n_v vs 1) := t1
  have k1 : 0 ≤ v_iv (n_v vs 1) ∧ v_iv (n_v vs 1) ≤ 24 := tv_rng t1
  obtain ⟨t2, hk⟩ := List.forall_mem_cons.mp hk
  have t2 : tv_ok ta (0, 0, 100, []) (n_v vs 2) := t2
  have k2 : 0 ≤ v_iv (n_v vs 2) ∧ v_iv (n_v vs 2) ≤ 100 := tv_rng t2
  obtain ⟨t3, hk⟩ := List.forall_mem_cons.mp hk
  have t3 : tv_ok ta (2, 0, 0, [234]) (n_v vs 3) := t3
  have r3 : ta (v_ad (n_v vs 3)) = some 234 := tv_rg t3
  have hds : ∀ q ∈ ([(1, 2, -4294967296, 24)] : List of_T), n_iv vs q.2.1 + q.2.2.1 ≤ n_iv vs q.1 ∧ n_iv vs q.1 ≤ n_iv vs q.2.1 + q.2.2.2 := hds
  obtain ⟨d0, hds⟩ := List.forall_mem_cons.mp hds
  have d0 : v_iv (n_v vs 2) + (-4294967296) ≤ v_iv (n_v vs 1) ∧ v_iv (n_v vs 1) ≤ v_iv (n_v vs 2) + 24 := d0
  have hf : fc_ok [(9, [3, 0], [117]), (20, [2, 0, 1], [50, 0, 1, 1117, 6, 2, 0, 100, 2, 6, 0, 2, 1, 0, 7, 0, 1, 5, 3, 1, 117, 7, 0, 1, 2])] ta ws vs := hf
  obtain ⟨f0, hf⟩ := fc_un (show (9 : Nat) < 100 from by decide) hf
  have f0 : n_v vs 3 = w_fd ws (v_ad (n_v vs 0)) 117 := f0
  obtain ⟨f1, hf⟩ := fc_un (show (20 : Nat) < 100 from by decide) hf
  have f1 : ∃ j0 : Int, 0 ≤ j0 ∧ j0 < 100 ∧ ((v_iv (n_v vs 2) ≤ j0) ∧ (w_ei ws (w_ar ws (n_v vs 0) 117) (j0) = v_iv (n_v vs 1))) := f1
  have cr_0_117 : ta (w_ar ws (n_v vs 0) 117) = some 234 := tv_rg (th_fd hD hth r0 (g := GG_150) rfl (k := 117) (t := (2, 0, 0, [234])) rfl rfl)
  have ad_3 : v_ad (n_v vs 3) = w_ar ws (n_v vs 0) 117 := congrArg v_ad f0
  have hK_0_117 : ∀ j : Int, 0 ≤ j → j < 100 → 0 ≤ w_ei ws (w_ar ws (n_v vs 0) 117) j ∧ w_ei ws (w_ar ws (n_v vs 0) 117) j ≤ 75 := fun j h0 h1 => th_el hD hth cr_0_117 (kd := 0) (n := 100) (m := 100) (lo := 0) (hi := 75) (rs := []) (L := []) rfl (by decide) (j := j.toNat) (by omega)
  have rf2 : tv_ok ta (0, 0, 99, []) (n_v vs 2) := tv_in t2 (by first | omega | grind) (by first | omega | grind)
  refine ⟨List.forall_mem_cons.mpr ⟨rf2, (fun _ h => (by cases h))⟩, [], trivial, ?_, (fun _ h => (by cases h))⟩
  rw [List.append_nil]
  exact (fun _ h => (by cases h))
def o_Mo_rowPlace_2 : or_T := (2, 6, [(0, (2, 0, 0, [150])), (1, (0, 0, 24, [])), (2, (0, 0, 99, [])), (3, (2, 0, 0, [234])), (4, (0, 0, 75, [])), (5, (0, 1, 100, []))], [(6, [5, 2], [1]), (7, [4, 1], [1]), (10, [4, 3, 2], []), (9, [3, 0], [117]), (20, [2, 0, 1], [50, 0, 1, 1117, 6, 2, 0, 100, 2, 6, 0, 2, 1, 0, 7, 0, 1, 5, 3, 1, 117, 7, 0, 1, 2])], [], [], [(20, [5, 0, 1], [50, 0, 1, 1117, 6, 2, 0, 100, 2, 6, 0, 2, 1, 0, 7, 0, 1, 5, 3, 1, 117, 7, 0, 1, 2])], [], [(5, 2, 1, 1), (1, 2, -4294967296, 24)])
theorem oo_Mo_rowPlace_2 {kA : Nat → ClassId} : or_ok kA GG o_Mo_rowPlace_2 := by
  intro A ta ws vs hD hth hl hk hds hf
  have hl : vs.length = 6 := hl
  have hk : ∀ q ∈ ([(0, (2, 0, 0, [150])), (1, (0, 0, 24, [])), (2, (0, 0, 99, [])), (3, (2, 0, 0, [234])), (4, (0, 0, 75, [])), (5, (0, 1, 100, []))] : List (Nat × tv_T)), tv_ok ta q.2 (n_v vs q.1) := hk
  obtain ⟨t0, hk⟩ := List.forall_mem_cons.mp hk
  have t0 : tv_ok ta (2, 0, 0, [150]) (n_v vs 0) := t0
  have r0 : ta (v_ad (n_v vs 0)) = some 150 := tv_rg t0
  obtain ⟨t1, hk⟩ := List.forall_mem_cons.mp hk
  have t1 : tv_ok ta (0, 0, 24, []) (n_v vs 1) := t1
  have k1 : 0 ≤ v_iv (n_v vs 1) ∧ v_iv (n_v vs 1) ≤ 24 := tv_rng t1
  obtain ⟨t2, hk⟩ := List.forall_mem_cons.mp hk
  have t2 : tv_ok ta (0, 0, 99, []) (n_v vs 2) := t2
  have k2 : 0 ≤ v_iv (n_v vs 2) ∧ v_iv (n_v vs 2) ≤ 99 := tv_rng t2
  obtain ⟨t3, hk⟩ := List.forall_mem_cons.mp hk
  have t3 : tv_ok ta (2, 0, 0, [234]) (n_v vs 3) := t3
  have r3 : ta (v_ad (n_v vs 3)) = some 234 := tv_rg t3
  obtain ⟨t4, hk⟩ := List.forall_mem_cons.mp hk
  have t4 : tv_ok ta (0, 0, 75, []) (n_v vs 4) := t4
  have k4 : 0 ≤ v_iv (n_v vs 4) ∧ v_iv (n_v vs 4) ≤ 75 := tv_rng t4
  obtain ⟨t5, hk⟩ := List.forall_mem_cons.mp hk
  have t5 : tv_ok ta (0, 1, 100, []) (n_v vs 5) := t5
  have k5 : 1 ≤ v_iv (n_v vs 5) ∧ v_iv (n_v vs 5) ≤ 100 := tv_rng t5
  have hds : ∀ q ∈ ([(5, 2, 1, 1), (1, 2, -4294967296, 24)] : List of_T), n_iv vs q.2.1 + q.2.2.1 ≤ n_iv vs q.1 ∧ n_iv vs q.1 ≤ n_iv vs q.2.1 + q.2.2.2 := hds
  obtain ⟨d0, hds⟩ := List.forall_mem_cons.mp hds
  have d0 : v_iv (n_v vs 2) + 1 ≤ v_iv (n_v vs 5) ∧ v_iv (n_v vs 5) ≤ v_iv (n_v vs 2) + 1 := d0
  obtain ⟨d1, hds⟩ := List.forall_mem_cons.mp hds
  have d1 : v_iv (n_v vs 2) + (-4294967296) ≤ v_iv (n_v vs 1) ∧ v_iv (n_v vs 1) ≤ v_iv (n_v vs 2) + 24 := d1
  have hf : fc_ok [(6, [5, 2], [1]), (7, [4, 1], [1]), (10, [4, 3, 2], []), (9, [3, 0], [117]), (20, [2, 0, 1], [50, 0, 1, 1117, 6, 2, 0, 100, 2, 6, 0, 2, 1, 0, 7, 0, 1, 5, 3, 1, 117, 7, 0, 1, 2])] ta ws vs := hf
  obtain ⟨f0, hf⟩ := fc_un (show (6 : Nat) < 100 from by decide) hf
  have f0 : v_iv (n_v vs 5) = v_iv (n_v vs 2) + 1 := f0
  obtain ⟨f1, hf⟩ := fc_un (show (7 : Nat) < 100 from by decide) hf
  have f1 : v_iv (n_v vs 4) ≠ v_iv (n_v vs 1) := f1
  obtain ⟨f2, hf⟩ := fc_un (show (10 : Nat) < 100 from by decide) hf
  have f2 : v_iv (n_v vs 4) = w_el ws (v_ad (n_v vs 3)) (v_iv (n_v vs 2)).toNat := f2
  obtain ⟨f3, hf⟩ := fc_un (show (9 : Nat) < 100 from by decide) hf
  have f3 : n_v vs 3 = w_fd ws (v_ad (n_v vs 0)) 117 := f3
  obtain ⟨f4, hf⟩ := fc_un (show (20 : Nat) < 100 from by decide) hf
  have f4 : ∃ j0 : Int, 0 ≤ j0 ∧ j0 < 100 ∧ ((v_iv (n_v vs 2) ≤ j0) ∧ (w_ei ws (w_ar ws (n_v vs 0) 117) (j0) = v_iv (n_v vs 1))) := f4
  have cr_0_117 : ta (w_ar ws (n_v vs 0) 117) = some 234 := tv_rg (th_fd hD hth r0 (g := GG_150) rfl (k := 117) (t := (2, 0, 0, [234])) rfl rfl)
  have ad_3 : v_ad (n_v vs 3) = w_ar ws (n_v vs 0) 117 := congrArg v_ad f3
  rw [ad_3] at f2
  have h2 : v_iv (n_v vs 4) = w_ei ws (w_ar ws (n_v vs 0) 117) (v_iv (n_v vs 2)) := f2
  have br_0_117_2_0 : w_ei ws (w_ar ws (n_v vs 0) 117) (v_iv (n_v vs 2)) = w_el ws (w_ar ws (n_v vs 0) 117) (v_iv (n_v vs 2)).toNat := rfl
  have hK_0_117 : ∀ j : Int, 0 ≤ j → j < 100 → 0 ≤ w_ei ws (w_ar ws (n_v vs 0) 117) j ∧ w_ei ws (w_ar ws (n_v vs 0) 117) j ≤ 75 := fun j h0 h1 => th_el hD hth cr_0_117 (kd := 0) (n := 100) (m := 100) (lo := 0) (hi := 75) (rs := []) (L := []) rfl (by decide) (j := j.toNat) (by omega)
  have nf0 : fc_1 (20, [5, 0, 1], [50, 0, 1, 1117, 6, 2, 0, 100, 2, 6, 0, 2, 1, 0, 7, 0, 1, 5, 3, 1, 117, 7, 0, 1, 2]) ws (vs) := by
    refine ⟨fun n hn => ?_, ?_⟩
    · have hn : n ∈ [5, 0, 1] := hn
      rw [hl]
      simp only [List.mem_cons, List.not_mem_nil, or_false] at hn
      show n < 6; omega
    · show ∃ j0 : Int, 0 ≤ j0 ∧ j0 < 100 ∧ ((v_iv (n_v vs 5) ≤ j0) ∧ (w_ei ws (w_ar ws (n_v vs 0) 117) (j0) = v_iv (n_v vs 1)))
      first | omega | grind
  refine ⟨(fun _ h => (by cases h)), [], trivial, ?_, (fun _ h => (by cases h))⟩
  rw [List.append_nil]
  exact List.forall_mem_cons.mpr ⟨⟨show (20 : Nat) < 100 from by decide, nf0⟩, (fun _ h => (by cases h))⟩
def n_Mo_rowPlace_an : List an_T := [(2, [(0, (2, 0, 0, [150])), (1, (0, 0, 24, [])), (2, (0, 0, 100, []))], [], (0, 0), [(0, 0, 99998), (1, 2, 100), (0, 0, 100000)], [(1, 2, -1000000000000, 24)], [], [], 0, [], [(20, [2, 0, 1], [50, 0, 1, 1117, 6, 2, 0, 100, 2, 6, 0, 2, 1, 0, 7, 0, 1, 5, 3, 1, 117, 7, 0, 1, 2])])]
def t_Mo_rowPlace_ct : ct_L := []
set_option maxRecDepth 100000 in
theorem c_Mo_rowPlace {l : Launch} {D : va_G} {kA : Nat → ClassId} : ct_ok l D kA GG y_Mo_rowPlace z_Mo_rowPlace e_Mo_rowPlace := chk_all_ok (FT := [(265, 13, 117)]) (PT := []) (CT := t_Mo_rowPlace_ct) (KT := []) (NT := []) (AN := n_Mo_rowPlace_an) (OT := [o_Mo_rowPlace_0, o_Mo_rowPlace_1, o_Mo_rowPlace_2]) 3 200 (List.forall_mem_cons.mpr ⟨oo_Mo_rowPlace_0, List.forall_mem_cons.mpr ⟨oo_Mo_rowPlace_1, List.forall_mem_cons.mpr ⟨oo_Mo_rowPlace_2, List.forall_mem_nil _⟩⟩⟩) (by decide +kernel) ⟨List.forall_mem_cons.mpr ⟨gf_Mo_265, List.forall_mem_nil _⟩, List.forall_mem_nil _, List.forall_mem_nil _, List.forall_mem_nil _, List.forall_mem_nil _, GG_pl⟩ (by decide +kernel)
def o_Mo_sign_0 : or_T := (28, 4, [(0, (2, 0, 0, [150])), (2, (0, 1, 5, [])), (3, (0, 0, 0, []))], [(8, [2], [1]), (9, [2, 0], [8])], [], [], [(20, [3, 0], [50, 2, 0, 1012, 1008, 4, 6, 1, 2, 1, 0, 0, 1, 2, 7, 1, 3, 2, 1, 12, 0, 3, 1, 3, 2, 1, 8, 0, 0])], [], [])
theorem oo_Mo_sign_0 {kA : Nat → ClassId} : or_ok kA GG o_Mo_sign_0 := by
  intro A ta ws vs hD hth hl hk hds hf
  have hl : vs.length = 4 := hl
  have hk : ∀ q ∈ ([(0, (2, 0, 0, [150])), (2, (0, 1, 5, [])), (3, (0, 0, 0, []))] : List (Nat × tv_T)), tv_ok ta q.2 (n_v vs q.1) := hk
  obtain ⟨t0, hk⟩ := List.forall_mem_cons.mp hk
  have t0 : tv_ok ta (2, 0, 0, [150]) (n_v vs 0) := t0
  have r0 : ta (v_ad (n_v vs 0)) = some 150 := tv_rg t0
  obtain ⟨t2, hk⟩ := List.forall_mem_cons.mp hk
  have t2 : tv_ok ta (0, 1, 5, []) (n_v vs 2) := t2
  have k2 : 1 ≤ v_iv (n_v vs 2) ∧ v_iv (n_v vs 2) ≤ 5 := tv_rng t2
  obtain ⟨t3, hk⟩ := List.forall_mem_cons.mp hk
  have t3 : tv_ok ta (0, 0, 0, []) (n_v vs 3) := t3
  have k3 : 0 ≤ v_iv (n_v vs 3) ∧ v_iv (n_v vs 3) ≤ 0 := tv_rng t3
  have hf : fc_ok [(8, [2], [1]), (9, [2, 0], [8])] ta ws vs := hf
  obtain ⟨f0, hf⟩ := fc_un (show (8 : Nat) < 100 from by decide) hf
  have f0 : v_iv (n_v vs 2) ≠ 0 := f0
  obtain ⟨f1, hf⟩ := fc_un (show (9 : Nat) < 100 from by decide) hf
  have f1 : n_v vs 2 = w_fd ws (v_ad (n_v vs 0)) 8 := f1
  have g1 : v_iv (n_v vs 2) = w_fi ws (n_v vs 0) 8 := congrArg v_iv f1
  have kz_0_8 : 0 ≤ w_fi ws (n_v vs 0) 8 ∧ w_fi ws (n_v vs 0) 8 ≤ 5 := tv_rng (th_fd hD hth r0 (g := GG_150) rfl (k := 8) (t := (0, 0, 5, [])) rfl rfl)
  have kz_0_12 : 0 ≤ w_fi ws (n_v vs 0) 12 ∧ w_fi ws (n_v vs 0) 12 ≤ 4 := tv_rng (th_fd hD hth r0 (g := GG_150) rfl (k := 12) (t := (0, 0, 4, [])) rfl rfl)
  have nf0 : fc_1 (20, [3, 0], [50, 2, 0, 1012, 1008, 4, 6, 1, 2, 1, 0, 0, 1, 2, 7, 1, 3, 2, 1, 12, 0, 3, 1, 3, 2, 1, 8, 0, 0]) ws (vs) := by
    refine ⟨fun n hn => ?_, ?_⟩
    · have hn : n ∈ [3, 0] := hn
      rw [hl]
      simp only [List.mem_cons, List.not_mem_nil, or_false] at hn
      show n < 4; omega
    · show (v_iv (n_v vs 3) = 1) → ((w_fi ws (n_v vs 0) 12 = 3) ∧ (w_fi ws (n_v vs 0) 8 = 0))
      first | omega | grind
  refine ⟨(fun _ h => (by cases h)), [], trivial, ?_, (fun _ h => (by cases h))⟩
  rw [List.append_nil]
  exact List.forall_mem_cons.mpr ⟨⟨show (20 : Nat) < 100 from by decide, nf0⟩, (fun _ h => (by cases h))⟩
def o_Mo_sign_1 : or_T := (28, 6, [(0, (2, 0, 0, [150])), (2, (0, 0, 0, [])), (3, (0, 0, 4, [])), (4, (0, 3, 3, [])), (5, (0, 0, 0, []))], [(7, [3, 4], [1]), (9, [3, 0], [12]), (8, [2], [0]), (9, [2, 0], [8])], [], [], [(20, [5, 0], [50, 2, 0, 1012, 1008, 4, 6, 1, 2, 1, 0, 0, 1, 2, 7, 1, 3, 2, 1, 12, 0, 3, 1, 3, 2, 1, 8, 0, 0])], [], [])
theorem oo_Mo_sign_1 {kA : Nat → ClassId} : or_ok kA GG o_Mo_sign_1 := by
  intro A ta ws vs hD hth hl hk hds hf
  have hl : vs.length = 6 := hl
  have hk : ∀ q ∈ ([(0, (2, 0, 0, [150])), (2, (0, 0, 0, [])), (3, (0, 0, 4, [])), (4, (0, 3, 3, [])), (5, (0, 0, 0, []))] : List (Nat × tv_T)), tv_ok ta q.2 (n_v vs q.1) := hk
  obtain ⟨t0, hk⟩ := List.forall_mem_cons.mp hk
  have t0 : tv_ok ta (2, 0, 0, [150]) (n_v vs 0) := t0
  have r0 : ta (v_ad (n_v vs 0)) = some 150 := tv_rg t0
  obtain ⟨t2, hk⟩ := List.forall_mem_cons.mp hk
  have t2 : tv_ok ta (0, 0, 0, []) (n_v vs 2) := t2
  have k2 : 0 ≤ v_iv (n_v vs 2) ∧ v_iv (n_v vs 2) ≤ 0 := tv_rng t2
  obtain ⟨t3, hk⟩ := List.forall_mem_cons.mp hk
  have t3 : tv_ok ta (0, 0, 4, []) (n_v vs 3) := t3
  have k3 : 0 ≤ v_iv (n_v vs 3) ∧ v_iv (n_v vs 3) ≤ 4 := tv_rng t3
  obtain ⟨t4, hk⟩ := List.forall_mem_cons.mp hk
  have t4 : tv_ok ta (0, 3, 3, []) (n_v vs 4) := t4
  have k4 : 3 ≤ v_iv (n_v vs 4) ∧ v_iv (n_v vs 4) ≤ 3 := tv_rng t4
  obtain ⟨t5, hk⟩ := List.forall_mem_cons.mp hk
  have t5 : tv_ok ta (0, 0, 0, []) (n_v vs 5) := t5
  have k5 : 0 ≤ v_iv (n_v vs 5) ∧ v_iv (n_v vs 5) ≤ 0 := tv_rng t5
  have hf : fc_ok [(7, [3, 4], [1]), (9, [3, 0], [12]), (8, [2], [0]), (9, [2, 0], [8])] ta ws vs := hf
  obtain ⟨f0, hf⟩ := fc_un (show (7 : Nat) < 100 from by decide) hf
  have f0 : v_iv (n_v vs 3) ≠ v_iv (n_v vs 4) := f0
  obtain ⟨f1, hf⟩ := fc_un (show (9 : Nat) < 100 from by decide) hf
  have f1 : n_v vs 3 = w_fd ws (v_ad (n_v vs 0)) 12 := f1
  obtain ⟨f2, hf⟩ := fc_un (show (8 : Nat) < 100 from by decide) hf
  have f2 : v_iv (n_v vs 2) = 0 := f2
  obtain ⟨f3, hf⟩ := fc_un (show (9 : Nat) < 100 from by decide) hf
  have f3 : n_v vs 2 = w_fd ws (v_ad (n_v vs 0)) 8 := f3
  have g1 : v_iv (n_v vs 3) = w_fi ws (n_v vs 0) 12 := congrArg v_iv f1
  have g3 : v_iv (n_v vs 2) = w_fi ws (n_v vs 0) 8 := congrArg v_iv f3
  have kz_0_8 : 0 ≤ w_fi ws (n_v vs 0) 8 ∧ w_fi ws (n_v vs 0) 8 ≤ 5 := tv_rng (th_fd hD hth r0 (g := GG_150) rfl (k := 8) (t := (0, 0, 5, [])) rfl rfl)
  have kz_0_12 : 0 ≤ w_fi ws (n_v vs 0) 12 ∧ w_fi ws (n_v vs 0) 12 ≤ 4 := tv_rng (th_fd hD hth r0 (g := GG_150) rfl (k := 12) (t := (0, 0, 4, [])) rfl rfl)
  have nf0 : fc_1 (20, [5, 0], [50, 2, 0, 1012, 1008, 4, 6, 1, 2, 1, 0, 0, 1, 2, 7, 1, 3, 2, 1, 12, 0, 3, 1, 3, 2, 1, 8, 0, 0]) ws (vs) := by
    refine ⟨fun n hn => ?_, ?_⟩
    · have hn : n ∈ [5, 0] := hn
      rw [hl]
      simp only [List.mem_cons, List.not_mem_nil, or_false] at hn
      show n < 6; omega
    · show (v_iv (n_v vs 5) = 1) → ((w_fi ws (n_v vs 0) 12 = 3) ∧ (w_fi ws (n_v vs 0) 8 = 0))
      first | omega | grind
  refine ⟨(fun _ h => (by cases h)), [], trivial, ?_, (fun _ h => (by cases h))⟩
  rw [List.append_nil]
  exact List.forall_mem_cons.mpr ⟨⟨show (20 : Nat) < 100 from by decide, nf0⟩, (fun _ h => (by cases h))⟩
def o_Mo_sign_2 : or_T := (28, 7, [(0, (2, 0, 0, [150])), (2, (0, 0, 0, [])), (3, (0, 3, 3, [])), (4, (0, 3, 3, [])), (6, (0, 0, 0, []))], [(7, [3, 4], [0]), (9, [3, 0], [12]), (8, [2], [0]), (9, [2, 0], [8])], [], [], [(20, [6, 0], [50, 2, 0, 1012, 1008, 4, 6, 1, 2, 1, 0, 0, 1, 2, 7, 1, 3, 2, 1, 12, 0, 3, 1, 3, 2, 1, 8, 0, 0])], [], [])
theorem oo_Mo_sign_2 {kA : Nat → ClassId} : or_ok kA GG o_Mo_sign_2 := by
  intro A ta ws vs hD hth hl hk hds hf
  have hl : vs.length = 7 := hl
  have hk : ∀ q ∈ ([(0, (2, 0, 0, [150])), (2, (0, 0, 0, [])), (3, (0, 3, 3, [])), (4, (0, 3, 3, [])), (6, (0, 0, 0, []))] : List (Nat × tv_T)), tv_ok ta q.2 (n_v vs q.1) := hk
  obtain ⟨t0, hk⟩ := List.forall_mem_cons.mp hk
  have t0 : tv_ok ta (2, 0, 0, [150]) (n_v vs 0) := t0
  have r0 : ta (v_ad (n_v vs 0)) = some 150 := tv_rg t0
  obtain ⟨t2, hk⟩ := List.forall_mem_cons.mp hk
  have t2 : tv_ok ta (0, 0, 0, []) (n_v vs 2) := t2
  have k2 : 0 ≤ v_iv (n_v vs 2) ∧ v_iv (n_v vs 2) ≤ 0 := tv_rng t2
  obtain ⟨t3, hk⟩ := List.forall_mem_cons.mp hk
  have t3 : tv_ok ta (0, 3, 3, []) (n_v vs 3) := t3
  have k3 : 3 ≤ v_iv (n_v vs 3) ∧ v_iv (n_v vs 3) ≤ 3 := tv_rng t3
  obtain ⟨t4, hk⟩ := List.forall_mem_cons.mp hk
  have t4 : tv_ok ta (0, 3, 3, []) (n_v vs 4) := t4
  have k4 : 3 ≤ v_iv (n_v vs 4) ∧ v_iv (n_v vs 4) ≤ 3 := tv_rng t4
  obtain ⟨t6, hk⟩ := List.forall_mem_cons.mp hk
  have t6 : tv_ok ta (0, 0, 0, []) (n_v vs 6) := t6
  have k6 : 0 ≤ v_iv (n_v vs 6) ∧ v_iv (n_v vs 6) ≤ 0 := tv_rng t6
  have hf : fc_ok [(7, [3, 4], [0]), (9, [3, 0], [12]), (8, [2], [0]), (9, [2, 0], [8])] ta ws vs := hf
  obtain ⟨f0, hf⟩ := fc_un (show (7 : Nat) < 100 from by decide) hf
  have f0 : v_iv (n_v vs 3) = v_iv (n_v vs 4) := f0
  obtain ⟨f1, hf⟩ := fc_un (show (9 : Nat) < 100 from by decide) hf
  have f1 : n_v vs 3 = w_fd ws (v_ad (n_v vs 0)) 12 := f1
  obtain ⟨f2, hf⟩ := fc_un (show (8 : Nat) < 100 from by decide) hf
  have f2 : v_iv (n_v vs 2) = 0 := f2
  obtain ⟨f3, hf⟩ := fc_un (show (9 : Nat) < 100 from by decide) hf
  have f3 : n_v vs 2 = w_fd ws (v_ad (n_v vs 0)) 8 := f3
  have g1 : v_iv (n_v vs 3) = w_fi ws (n_v vs 0) 12 := congrArg v_iv f1
  have g3 : v_iv (n_v vs 2) = w_fi ws (n_v vs 0) 8 := congrArg v_iv f3
  have kz_0_8 : 0 ≤ w_fi ws (n_v vs 0) 8 ∧ w_fi ws (n_v vs 0) 8 ≤ 5 := tv_rng (th_fd hD hth r0 (g := GG_150) rfl (k := 8) (t := (0, 0, 5, [])) rfl rfl)
  have kz_0_12 : 0 ≤ w_fi ws (n_v vs 0) 12 ∧ w_fi ws (n_v vs 0) 12 ≤ 4 := tv_rng (th_fd hD hth r0 (g := GG_150) rfl (k := 12) (t := (0, 0, 4, [])) rfl rfl)
  have nf0 : fc_1 (20, [6, 0], [50, 2, 0, 1012, 1008, 4, 6, 1, 2, 1, 0, 0, 1, 2, 7, 1, 3, 2, 1, 12, 0, 3, 1, 3, 2, 1, 8, 0, 0]) ws (vs) := by
    refine ⟨fun n hn => ?_, ?_⟩
    · have hn : n ∈ [6, 0] := hn
      rw [hl]
      simp only [List.mem_cons, List.not_mem_nil, or_false] at hn
      show n < 7; omega
    · show (v_iv (n_v vs 6) = 1) → ((w_fi ws (n_v vs 0) 12 = 3) ∧ (w_fi ws (n_v vs 0) 8 = 0))
      first | omega | grind
  refine ⟨(fun _ h => (by cases h)), [], trivial, ?_, (fun _ h => (by cases h))⟩
  rw [List.append_nil]
  exact List.forall_mem_cons.mpr ⟨⟨show (20 : Nat) < 100 from by decide, nf0⟩, (fun _ h => (by cases h))⟩
def o_Mo_sign_3 : or_T := (28, 7, [(0, (2, 0, 0, [150])), (2, (0, 0, 0, [])), (3, (0, 3, 3, [])), (4, (0, 3, 3, [])), (6, (0, 1, 1, []))], [(7, [3, 4], [0]), (9, [3, 0], [12]), (8, [2], [0]), (9, [2, 0], [8])], [], [], [(20, [6, 0], [50, 2, 0, 1012, 1008, 4, 6, 1, 2, 1, 0, 0, 1, 2, 7, 1, 3, 2, 1, 12, 0, 3, 1, 3, 2, 1, 8, 0, 0])], [], [])
theorem oo_Mo_sign_3 {kA : Nat → ClassId} : or_ok kA GG o_Mo_sign_3 := by
  intro A ta ws vs hD hth hl hk hds hf
  have hl : vs.length = 7 := hl
  have hk : ∀ q ∈ ([(0, (2, 0, 0, [150])), (2, (0, 0, 0, [])), (3, (0, 3, 3, [])), (4, (0, 3, 3, [])), (6, (0, 1, 1, []))] : List (Nat × tv_T)), tv_ok ta q.2 (n_v vs q.1) := hk
  obtain ⟨t0, hk⟩ := List.forall_mem_cons.mp hk
  have t0 : tv_ok ta (2, 0, 0, [150]) (n_v vs 0) := t0
  have r0 : ta (v_ad (n_v vs 0)) = some 150 := tv_rg t0
  obtain ⟨t2, hk⟩ := List.forall_mem_cons.mp hk
  have t2 : tv_ok ta (0, 0, 0, []) (n_v vs 2) := t2
  have k2 : 0 ≤ v_iv (n_v vs 2) ∧ v_iv (n_v vs 2) ≤ 0 := tv_rng t2
  obtain ⟨t3, hk⟩ := List.forall_mem_cons.mp hk
  have t3 : tv_ok ta (0, 3, 3, []) (n_v vs 3) := t3
  have k3 : 3 ≤ v_iv (n_v vs 3) ∧ v_iv (n_v vs 3) ≤ 3 := tv_rng t3
  obtain ⟨t4, hk⟩ := List.forall_mem_cons.mp hk
  have t4 : tv_ok ta (0, 3, 3, []) (n_v vs 4) := t4
  have k4 : 3 ≤ v_iv (n_v vs 4) ∧ v_iv (n_v vs 4) ≤ 3 := tv_rng t4
  obtain ⟨t6, hk⟩ := List.forall_mem_cons.mp hk
  have t6 : tv_ok ta (0, 1, 1, []) (n_v vs 6) := t6
  have k6 : 1 ≤ v_iv (n_v vs 6) ∧ v_iv (n_v vs 6) ≤ 1 := tv_rng t6
  have hf : fc_ok [(7, [3, 4], [0]), (9, [3, 0], [12]), (8, [2], [0]), (9, [2, 0], [8])] ta ws vs := hf
  obtain ⟨f0, hf⟩ := fc_un (show (7 : Nat) < 100 from by decide) hf
  have f0 : v_iv (n_v vs 3) = v_iv (n_v vs 4) := f0
  obtain ⟨f1, hf⟩ := fc_un (show (9 : Nat) < 100 from by decide) hf
  have f1 : n_v vs 3 = w_fd ws (v_ad (n_v vs 0)) 12 := f1
  obtain ⟨f2, hf⟩ := fc_un (show (8 : Nat) < 100 from by decide) hf
  have f2 : v_iv (n_v vs 2) = 0 := f2
  obtain ⟨f3, hf⟩ := fc_un (show (9 : Nat) < 100 from by decide) hf
  have f3 : n_v vs 2 = w_fd ws (v_ad (n_v vs 0)) 8 := f3
  have g1 : v_iv (n_v vs 3) = w_fi ws (n_v vs 0) 12 := congrArg v_iv f1
  have g3 : v_iv (n_v vs 2) = w_fi ws (n_v vs 0) 8 := congrArg v_iv f3
  have kz_0_8 : 0 ≤ w_fi ws (n_v vs 0) 8 ∧ w_fi ws (n_v vs 0) 8 ≤ 5 := tv_rng (th_fd hD hth r0 (g := GG_150) rfl (k := 8) (t := (0, 0, 5, [])) rfl rfl)
  have kz_0_12 : 0 ≤ w_fi ws (n_v vs 0) 12 ∧ w_fi ws (n_v vs 0) 12 ≤ 4 := tv_rng (th_fd hD hth r0 (g := GG_150) rfl (k := 12) (t := (0, 0, 4, [])) rfl rfl)
  have nf0 : fc_1 (20, [6, 0], [50, 2, 0, 1012, 1008, 4, 6, 1, 2, 1, 0, 0, 1, 2, 7, 1, 3, 2, 1, 12, 0, 3, 1, 3, 2, 1, 8, 0, 0]) ws (vs) := by
    refine ⟨fun n hn => ?_, ?_⟩
    · have hn : n ∈ [6, 0] := hn
      rw [hl]
      simp only [List.mem_cons, List.not_mem_nil, or_false] at hn
      show n < 7; omega
    · show (v_iv (n_v vs 6) = 1) → ((w_fi ws (n_v vs 0) 12 = 3) ∧ (w_fi ws (n_v vs 0) 8 = 0))
      first | omega | grind
  refine ⟨(fun _ h => (by cases h)), [], trivial, ?_, (fun _ h => (by cases h))⟩
  rw [List.append_nil]
  exact List.forall_mem_cons.mpr ⟨⟨show (20 : Nat) < 100 from by decide, nf0⟩, (fun _ h => (by cases h))⟩
def n_Mo_sign_an : List an_T := []
def t_Mo_sign_ct : ct_L := []
set_option maxRecDepth 100000 in
theorem c_Mo_sign {l : Launch} {D : va_G} {kA : Nat → ClassId} : ct_ok l D kA GG y_Mo_sign z_Mo_sign e_Mo_sign := chk_all_ok (FT := [(413, 13, 8), (434, 13, 12), (437, 13, 14)]) (PT := []) (CT := t_Mo_sign_ct) (KT := []) (NT := []) (AN := n_Mo_sign_an) (OT := [o_Mo_sign_0, o_Mo_sign_1, o_Mo_sign_2, o_Mo_sign_3]) 0 200 (List.forall_mem_cons.mpr ⟨oo_Mo_sign_0, List.forall_mem_cons.mpr ⟨oo_Mo_sign_1, List.forall_mem_cons.mpr ⟨oo_Mo_sign_2, List.forall_mem_cons.mpr ⟨oo_Mo_sign_3, List.forall_mem_nil _⟩⟩⟩⟩) (by decide +kernel) ⟨List.forall_mem_cons.mpr ⟨gf_Mo_413, List.forall_mem_cons.mpr ⟨gf_Mo_434, List.forall_mem_cons.mpr ⟨gf_Mo_437, List.forall_mem_nil _⟩⟩⟩, List.forall_mem_nil _, List.forall_mem_nil _, List.forall_mem_nil _, List.forall_mem_nil _, GG_pl⟩ (by decide +kernel)
def o_Mo_styleSign_0 : or_T := (40, 4, [(0, (2, 0, 0, [150])), (3, (0, 0, 0, []))], [], [], [], [(20, [3, 0], [50, 1, 1, 1158, 1160, 4, 6, 1, 2, 1, 0, 0, 1, 1, 6, 3, 1, 160, 2, 1, 158, 0, 3])], [], [])
theorem oo_Mo_styleSign_0 {kA : Nat → ClassId} : or_ok kA GG o_Mo_styleSign_0 := by
  intro A ta ws vs hD hth hl hk hds hf
  have hl : vs.length = 4 := hl
  have hk : ∀ q ∈ ([(0, (2, 0, 0, [150])), (3, (0, 0, 0, []))] : List (Nat × tv_T)), tv_ok ta q.2 (n_v vs q.1) := hk
  obtain ⟨t0, hk⟩ := List.forall_mem_cons.mp hk
  have t0 : tv_ok ta (2, 0, 0, [150]) (n_v vs 0) := t0
  have r0 : ta (v_ad (n_v vs 0)) = some 150 := tv_rg t0
  obtain ⟨t3, hk⟩ := List.forall_mem_cons.mp hk
  have t3 : tv_ok ta (0, 0, 0, []) (n_v vs 3) := t3
  have k3 : 0 ≤ v_iv (n_v vs 3) ∧ v_iv (n_v vs 3) ≤ 0 := tv_rng t3
  have cr_0_160 : ta (w_ar ws (n_v vs 0) 160) = some 259 := tv_rg (th_fd hD hth r0 (g := GG_150) rfl (k := 160) (t := (2, 0, 0, [259])) rfl rfl)
  have hK_0_160 : ∀ j : Int, 0 ≤ j → j < 2010 → 0 ≤ w_ei ws (w_ar ws (n_v vs 0) 160) j ∧ w_ei ws (w_ar ws (n_v vs 0) 160) j ≤ 4 := fun j h0 h1 => th_el hD hth cr_0_160 (kd := 0) (n := 2010) (m := 2010) (lo := 0) (hi := 4) (rs := []) (L := []) rfl (by decide) (j := j.toNat) (by omega)
  have kz_0_158 : 0 ≤ w_fi ws (n_v vs 0) 158 ∧ w_fi ws (n_v vs 0) 158 ≤ 2009 := tv_rng (th_fd hD hth r0 (g := GG_150) rfl (k := 158) (t := (0, 0, 2009, [])) rfl rfl)
  have nf0 : fc_1 (20, [3, 0], [50, 1, 1, 1158, 1160, 4, 6, 1, 2, 1, 0, 0, 1, 1, 6, 3, 1, 160, 2, 1, 158, 0, 3]) ws (vs) := by
    refine ⟨fun n hn => ?_, ?_⟩
    · have hn : n ∈ [3, 0] := hn
      rw [hl]
      simp only [List.mem_cons, List.not_mem_nil, or_false] at hn
      show n < 4; omega
    · show (v_iv (n_v vs 3) = 1) → (w_ei ws (w_ar ws (n_v vs 0) 160) (w_fi ws (n_v vs 0) 158) = 3)
      first | omega | grind
  refine ⟨(fun _ h => (by cases h)), [], trivial, ?_, (fun _ h => (by cases h))⟩
  rw [List.append_nil]
  exact List.forall_mem_cons.mpr ⟨⟨show (20 : Nat) < 100 from by decide, nf0⟩, (fun _ h => (by cases h))⟩
def o_Mo_styleSign_1 : or_T := (40, 8, [(0, (2, 0, 0, [150])), (3, (2, 0, 0, [259])), (4, (0, 0, 2009, [])), (5, (0, 0, 4, [])), (6, (0, 3, 3, [])), (7, (0, 0, 0, []))], [(7, [5, 6], [1]), (10, [5, 3, 4], []), (9, [4, 0], [158]), (9, [3, 0], [160])], [], [], [(20, [7, 0], [50, 1, 1, 1158, 1160, 4, 6, 1, 2, 1, 0, 0, 1, 1, 6, 3, 1, 160, 2, 1, 158, 0, 3])], [], [])
theorem oo_Mo_styleSign_1 {kA : Nat → ClassId} : or_ok kA GG o_Mo_styleSign_1 := by
  intro A ta ws vs hD hth hl hk hds hf
  have hl : vs.length = 8 := hl
  have hk : ∀ q ∈ ([(0, (2, 0, 0, [150])), (3, (2, 0, 0, [259])), (4, (0, 0, 2009, [])), (5, (0, 0, 4, [])), (6, (0, 3, 3, [])), (7, (0, 0, 0, []))] : List (Nat × tv_T)), tv_ok ta q.2 (n_v vs q.1) := hk
  obtain ⟨t0, hk⟩ := List.forall_mem_cons.mp hk
  have t0 : tv_ok ta (2, 0, 0, [150]) (n_v vs 0) := t0
  have r0 : ta (v_ad (n_v vs 0)) = some 150 := tv_rg t0
  obtain ⟨t3, hk⟩ := List.forall_mem_cons.mp hk
  have t3 : tv_ok ta (2, 0, 0, [259]) (n_v vs 3) := t3
  have r3 : ta (v_ad (n_v vs 3)) = some 259 := tv_rg t3
  obtain ⟨t4, hk⟩ := List.forall_mem_cons.mp hk
  have t4 : tv_ok ta (0, 0, 2009, []) (n_v vs 4) := t4
  have k4 : 0 ≤ v_iv (n_v vs 4) ∧ v_iv (n_v vs 4) ≤ 2009 := tv_rng t4
  obtain ⟨t5, hk⟩ := List.forall_mem_cons.mp hk
  have t5 : tv_ok ta (0, 0, 4, []) (n_v vs 5) := t5
  have k5 : 0 ≤ v_iv (n_v vs 5) ∧ v_iv (n_v vs 5) ≤ 4 := tv_rng t5
  obtain ⟨t6, hk⟩ := List.forall_mem_cons.mp hk
  have t6 : tv_ok ta (0, 3, 3, []) (n_v vs 6) := t6
  have k6 : 3 ≤ v_iv (n_v vs 6) ∧ v_iv (n_v vs 6) ≤ 3 := tv_rng t6
  obtain ⟨t7, hk⟩ := List.forall_mem_cons.mp hk
  have t7 : tv_ok ta (0, 0, 0, []) (n_v vs 7) := t7
  have k7 : 0 ≤ v_iv (n_v vs 7) ∧ v_iv (n_v vs 7) ≤ 0 := tv_rng t7
  have hf : fc_ok [(7, [5, 6], [1]), (10, [5, 3, 4], []), (9, [4, 0], [158]), (9, [3, 0], [160])] ta ws vs := hf
  obtain ⟨f0, hf⟩ := fc_un (show (7 : Nat) < 100 from by decide) hf
  have f0 : v_iv (n_v vs 5) ≠ v_iv (n_v vs 6) := f0
  obtain ⟨f1, hf⟩ := fc_un (show (10 : Nat) < 100 from by decide) hf
  have f1 : v_iv (n_v vs 5) = w_el ws (v_ad (n_v vs 3)) (v_iv (n_v vs 4)).toNat := f1
  obtain ⟨f2, hf⟩ := fc_un (show (9 : Nat) < 100 from by decide) hf
  have f2 : n_v vs 4 = w_fd ws (v_ad (n_v vs 0)) 158 := f2
  obtain ⟨f3, hf⟩ := fc_un (show (9 : Nat) < 100 from by decide) hf
  have f3 : n_v vs 3 = w_fd ws (v_ad (n_v vs 0)) 160 := f3
  have cr_0_160 : ta (w_ar ws (n_v vs 0) 160) = some 259 := tv_rg (th_fd hD hth r0 (g := GG_150) rfl (k := 160) (t := (2, 0, 0, [259])) rfl rfl)
  have ad_3 : v_ad (n_v vs 3) = w_ar ws (n_v vs 0) 160 := congrArg v_ad f3
  rw [ad_3] at f1
  have h1 : v_iv (n_v vs 5) = w_ei ws (w_ar ws (n_v vs 0) 160) (v_iv (n_v vs 4)) := f1
  have g2 : v_iv (n_v vs 4) = w_fi ws (n_v vs 0) 158 := congrArg v_iv f2
  have br_0_160_4_0 : w_ei ws (w_ar ws (n_v vs 0) 160) (v_iv (n_v vs 4)) = w_el ws (w_ar ws (n_v vs 0) 160) (v_iv (n_v vs 4)).toNat := rfl
  have hK_0_160 : ∀ j : Int, 0 ≤ j → j < 2010 → 0 ≤ w_ei ws (w_ar ws (n_v vs 0) 160) j ∧ w_ei ws (w_ar ws (n_v vs 0) 160) j ≤ 4 := fun j h0 h1 => th_el hD hth cr_0_160 (kd := 0) (n := 2010) (m := 2010) (lo := 0) (hi := 4) (rs := []) (L := []) rfl (by decide) (j := j.toNat) (by omega)
  have kz_0_158 : 0 ≤ w_fi ws (n_v vs 0) 158 ∧ w_fi ws (n_v vs 0) 158 ≤ 2009 := tv_rng (th_fd hD hth r0 (g := GG_150) rfl (k := 158) (t := (0, 0, 2009, [])) rfl rfl)
  have nf0 : fc_1 (20, [7, 0], [50, 1, 1, 1158, 1160, 4, 6, 1, 2, 1, 0, 0, 1, 1, 6, 3, 1, 160, 2, 1, 158, 0, 3]) ws (vs) := by
    refine ⟨fun n hn => ?_, ?_⟩
    · have hn : n ∈ [7, 0] := hn
      rw [hl]
      simp only [List.mem_cons, List.not_mem_nil, or_false] at hn
      show n < 8; omega
    · show (v_iv (n_v vs 7) = 1) → (w_ei ws (w_ar ws (n_v vs 0) 160) (w_fi ws (n_v vs 0) 158) = 3)
      first | omega | grind
  refine ⟨(fun _ h => (by cases h)), [], trivial, ?_, (fun _ h => (by cases h))⟩
  rw [List.append_nil]
  exact List.forall_mem_cons.mpr ⟨⟨show (20 : Nat) < 100 from by decide, nf0⟩, (fun _ h => (by cases h))⟩
def o_Mo_styleSign_2 : or_T := (40, 11, [(0, (2, 0, 0, [150])), (3, (2, 0, 0, [259])), (4, (0, 0, 2009, [])), (5, (0, 3, 3, [])), (6, (0, 3, 3, [])), (10, (0, 0, 0, []))], [(9, [4, 0], [158]), (7, [5, 6], [0]), (10, [5, 3, 4], []), (9, [3, 0], [160])], [], [], [(20, [10, 0], [50, 1, 1, 1158, 1160, 4, 6, 1, 2, 1, 0, 0, 1, 1, 6, 3, 1, 160, 2, 1, 158, 0, 3])], [], [])
theorem oo_Mo_styleSign_2 {kA : Nat → ClassId} : or_ok kA GG o_Mo_styleSign_2 := by
  intro A ta ws vs hD hth hl hk hds hf
  have hl : vs.length = 11 := hl
  have hk : ∀ q ∈ ([(0, (2, 0, 0, [150])), (3, (2, 0, 0, [259])), (4, (0, 0, 2009, [])), (5, (0, 3, 3, [])), (6, (0, 3, 3, [])), (10, (0, 0, 0, []))] : List (Nat × tv_T)), tv_ok ta q.2 (n_v vs q.1) := hk
  obtain ⟨t0, hk⟩ := List.forall_mem_cons.mp hk
  have t0 : tv_ok ta (2, 0, 0, [150]) (n_v vs 0) := t0
  have r0 : ta (v_ad (n_v vs 0)) = some 150 := tv_rg t0
  obtain ⟨t3, hk⟩ := List.forall_mem_cons.mp hk
  have t3 : tv_ok ta (2, 0, 0, [259]) (n_v vs 3) := t3
  have r3 : ta (v_ad (n_v vs 3)) = some 259 := tv_rg t3
  obtain ⟨t4, hk⟩ := List.forall_mem_cons.mp hk
  have t4 : tv_ok ta (0, 0, 2009, []) (n_v vs 4) := t4
  have k4 : 0 ≤ v_iv (n_v vs 4) ∧ v_iv (n_v vs 4) ≤ 2009 := tv_rng t4
  obtain ⟨t5, hk⟩ := List.forall_mem_cons.mp hk
  have t5 : tv_ok ta (0, 3, 3, []) (n_v vs 5) := t5
  have k5 : 3 ≤ v_iv (n_v vs 5) ∧ v_iv (n_v vs 5) ≤ 3 := tv_rng t5
  obtain ⟨t6, hk⟩ := List.forall_mem_cons.mp hk
  have t6 : tv_ok ta (0, 3, 3, []) (n_v vs 6) := t6
  have k6 : 3 ≤ v_iv (n_v vs 6) ∧ v_iv (n_v vs 6) ≤ 3 := tv_rng t6
  obtain ⟨t10, hk⟩ := List.forall_mem_cons.mp hk
  have t10 : tv_ok ta (0, 0, 0, []) (n_v vs 10) := t10
  have k10 : 0 ≤ v_iv (n_v vs 10) ∧ v_iv (n_v vs 10) ≤ 0 := tv_rng t10
  have hf : fc_ok [(9, [4, 0], [158]), (7, [5, 6], [0]), (10, [5, 3, 4], []), (9, [3, 0], [160])] ta ws vs := hf
  obtain ⟨f0, hf⟩ := fc_un (show (9 : Nat) < 100 from by decide) hf
  have f0 : n_v vs 4 = w_fd ws (v_ad (n_v vs 0)) 158 := f0
  obtain ⟨f1, hf⟩ := fc_un (show (7 : Nat) < 100 from by decide) hf
  have f1 : v_iv (n_v vs 5) = v_iv (n_v vs 6) := f1
  obtain ⟨f2, hf⟩ := fc_un (show (10 : Nat) < 100 from by decide) hf
  have f2 : v_iv (n_v vs 5) = w_el ws (v_ad (n_v vs 3)) (v_iv (n_v vs 4)).toNat := f2
  obtain ⟨f3, hf⟩ := fc_un (show (9 : Nat) < 100 from by decide) hf
  have f3 : n_v vs 3 = w_fd ws (v_ad (n_v vs 0)) 160 := f3
  have cr_0_160 : ta (w_ar ws (n_v vs 0) 160) = some 259 := tv_rg (th_fd hD hth r0 (g := GG_150) rfl (k := 160) (t := (2, 0, 0, [259])) rfl rfl)
  have ad_3 : v_ad (n_v vs 3) = w_ar ws (n_v vs 0) 160 := congrArg v_ad f3
  have g0 : v_iv (n_v vs 4) = w_fi ws (n_v vs 0) 158 := congrArg v_iv f0
  rw [ad_3] at f2
  have h2 : v_iv (n_v vs 5) = w_ei ws (w_ar ws (n_v vs 0) 160) (v_iv (n_v vs 4)) := f2
  have br_0_160_4_0 : w_ei ws (w_ar ws (n_v vs 0) 160) (v_iv (n_v vs 4)) = w_el ws (w_ar ws (n_v vs 0) 160) (v_iv (n_v vs 4)).toNat := rfl
  have hK_0_160 : ∀ j : Int, 0 ≤ j → j < 2010 → 0 ≤ w_ei ws (w_ar ws (n_v vs 0) 160) j ∧ w_ei ws (w_ar ws (n_v vs 0) 160) j ≤ 4 := fun j h0 h1 => th_el hD hth cr_0_160 (kd := 0) (n := 2010) (m := 2010) (lo := 0) (hi := 4) (rs := []) (L := []) rfl (by decide) (j := j.toNat) (by omega)
  have kz_0_158 : 0 ≤ w_fi ws (n_v vs 0) 158 ∧ w_fi ws (n_v vs 0) 158 ≤ 2009 := tv_rng (th_fd hD hth r0 (g := GG_150) rfl (k := 158) (t := (0, 0, 2009, [])) rfl rfl)
  have nf0 : fc_1 (20, [10, 0], [50, 1, 1, 1158, 1160, 4, 6, 1, 2, 1, 0, 0, 1, 1, 6, 3, 1, 160, 2, 1, 158, 0, 3]) ws (vs) := by
    refine ⟨fun n hn => ?_, ?_⟩
    · have hn : n ∈ [10, 0] := hn
      rw [hl]
      simp only [List.mem_cons, List.not_mem_nil, or_false] at hn
      show n < 11; omega
    · show (v_iv (n_v vs 10) = 1) → (w_ei ws (w_ar ws (n_v vs 0) 160) (w_fi ws (n_v vs 0) 158) = 3)
      first | omega | grind
  refine ⟨(fun _ h => (by cases h)), [], trivial, ?_, (fun _ h => (by cases h))⟩
  rw [List.append_nil]
  exact List.forall_mem_cons.mpr ⟨⟨show (20 : Nat) < 100 from by decide, nf0⟩, (fun _ h => (by cases h))⟩
def o_Mo_styleSign_3 : or_T := (40, 11, [(0, (2, 0, 0, [150])), (3, (2, 0, 0, [259])), (4, (0, 0, 2009, [])), (5, (0, 3, 3, [])), (6, (0, 3, 3, [])), (10, (0, 1, 1, []))], [(9, [4, 0], [158]), (7, [5, 6], [0]), (10, [5, 3, 4], []), (9, [3, 0], [160])], [], [], [(20, [10, 0], [50, 1, 1, 1158, 1160, 4, 6, 1, 2, 1, 0, 0, 1, 1, 6, 3, 1, 160, 2, 1, 158, 0, 3])], [], [])
theorem oo_Mo_styleSign_3 {kA : Nat → ClassId} : or_ok kA GG o_Mo_styleSign_3 := by
  intro A ta ws vs hD hth hl hk hds hf
  have hl : vs.length = 11 := hl
  have hk : ∀ q ∈ ([(0, (2, 0, 0, [150])), (3, (2, 0, 0, [259])), (4, (0, 0, 2009, [])), (5, (0, 3, 3, [])), (6, (0, 3, 3, [])), (10, (0, 1, 1, []))] : List (Nat × tv_T)), tv_ok ta q.2 (n_v vs q.1) := hk
  obtain ⟨t0, hk⟩ := List.forall_mem_cons.mp hk
  have t0 : tv_ok ta (2, 0, 0, [150]) (n_v vs 0) := t0
  have r0 : ta (v_ad (n_v vs 0)) = some 150 := tv_rg t0
  obtain ⟨t3, hk⟩ := List.forall_mem_cons.mp hk
  have t3 : tv_ok ta (2, 0, 0, [259]) (n_v vs 3) := t3
  have r3 : ta (v_ad (n_v vs 3)) = some 259 := tv_rg t3
  obtain ⟨t4, hk⟩ := List.forall_mem_cons.mp hk
  have t4 : tv_ok ta (0, 0, 2009, []) (n_v vs 4) := t4
  have k4 : 0 ≤ v_iv (n_v vs 4) ∧ v_iv (n_v vs 4) ≤ 2009 := tv_rng t4
  obtain ⟨t5, hk⟩ := List.forall_mem_cons.mp hk
  have t5 : tv_ok ta (0, 3, 3, []) (n_v vs 5) := t5
  have k5 : 3 ≤ v_iv (n_v vs 5) ∧ v_iv (n_v vs 5) ≤ 3 := tv_rng t5
  obtain ⟨t6, hk⟩ := List.forall_mem_cons.mp hk
  have t6 : tv_ok ta (0, 3, 3, []) (n_v vs 6) := t6
  have k6 : 3 ≤ v_iv (n_v vs 6) ∧ v_iv (n_v vs 6) ≤ 3 := tv_rng t6
  obtain ⟨t10, hk⟩ := List.forall_mem_cons.mp hk
  have t10 : tv_ok ta (0, 1, 1, []) (n_v vs 10) := t10
  have k10 : 1 ≤ v_iv (n_v vs 10) ∧ v_iv (n_v vs 10) ≤ 1 := tv_rng t10
  have hf : fc_ok [(9, [4, 0], [158]), (7, [5, 6], [0]), (10, [5, 3, 4], []), (9, [3, 0], [160])] ta ws vs := hf
  obtain ⟨f0, hf⟩ := fc_un (show (9 : Nat) < 100 from by decide) hf
  have f0 : n_v vs 4 = w_fd ws (v_ad (n_v vs 0)) 158 := f0
  obtain ⟨f1, hf⟩ := fc_un (show (7 : Nat) < 100 from by decide) hf
  have f1 : v_iv (n_v vs 5) = v_iv (n_v vs 6) := f1
  obtain ⟨f2, hf⟩ := fc_un (show (10 : Nat) < 100 from by decide) hf
  have f2 : v_iv (n_v vs 5) = w_el ws (v_ad (n_v vs 3)) (v_iv (n_v vs 4)).toNat := f2
  obtain ⟨f3, hf⟩ := fc_un (show (9 : Nat) < 100 from by decide) hf
  have f3 : n_v vs 3 = w_fd ws (v_ad (n_v vs 0)) 160 := f3
  have cr_0_160 : ta (w_ar ws (n_v vs 0) 160) = some 259 := tv_rg (th_fd hD hth r0 (g := GG_150) rfl (k := 160) (t := (2, 0, 0, [259])) rfl rfl)
  have ad_3 : v_ad (n_v vs 3) = w_ar ws (n_v vs 0) 160 := congrArg v_ad f3
  have g0 : v_iv (n_v vs 4) = w_fi ws (n_v vs 0) 158 := congrArg v_iv f0
  rw [ad_3] at f2
  have h2 : v_iv (n_v vs 5) = w_ei ws (w_ar ws (n_v vs 0) 160) (v_iv (n_v vs 4)) := f2
  have br_0_160_4_0 : w_ei ws (w_ar ws (n_v vs 0) 160) (v_iv (n_v vs 4)) = w_el ws (w_ar ws (n_v vs 0) 160) (v_iv (n_v vs 4)).toNat := rfl
  have hK_0_160 : ∀ j : Int, 0 ≤ j → j < 2010 → 0 ≤ w_ei ws (w_ar ws (n_v vs 0) 160) j ∧ w_ei ws (w_ar ws (n_v vs 0) 160) j ≤ 4 := fun j h0 h1 => th_el hD hth cr_0_160 (kd := 0) (n := 2010) (m := 2010) (lo := 0) (hi := 4) (rs := []) (L := []) rfl (by decide) (j := j.toNat) (by omega)
  have kz_0_158 : 0 ≤ w_fi ws (n_v vs 0) 158 ∧ w_fi ws (n_v vs 0) 158 ≤ 2009 := tv_rng (th_fd hD hth r0 (g := GG_150) rfl (k := 158) (t := (0, 0, 2009, [])) rfl rfl)
  have nf0 : fc_1 (20, [10, 0], [50, 1, 1, 1158, 1160, 4, 6, 1, 2, 1, 0, 0, 1, 1, 6, 3, 1, 160, 2, 1, 158, 0, 3]) ws (vs) := by
    refine ⟨fun n hn => ?_, ?_⟩
    · have hn : n ∈ [10, 0] := hn
      rw [hl]
      simp only [List.mem_cons, List.not_mem_nil, or_false] at hn
      show n < 11; omega
    · show (v_iv (n_v vs 10) = 1) → (w_ei ws (w_ar ws (n_v vs 0) 160) (w_fi ws (n_v vs 0) 158) = 3)
      first | omega | grind
  refine ⟨(fun _ h => (by cases h)), [], trivial, ?_, (fun _ h => (by cases h))⟩
  rw [List.append_nil]
  exact List.forall_mem_cons.mpr ⟨⟨show (20 : Nat) < 100 from by decide, nf0⟩, (fun _ h => (by cases h))⟩
def n_Mo_styleSign_an : List an_T := []
def t_Mo_styleSign_ct : ct_L := []
set_option maxRecDepth 100000 in
theorem c_Mo_styleSign {l : Launch} {D : va_G} {kA : Nat → ClassId} : ct_ok l D kA GG y_Mo_styleSign z_Mo_styleSign e_Mo_styleSign := chk_all_ok (FT := [(342, 13, 160), (345, 13, 161), (413, 13, 8), (1169, 13, 158)]) (PT := []) (CT := t_Mo_styleSign_ct) (KT := []) (NT := []) (AN := n_Mo_styleSign_an) (OT := [o_Mo_styleSign_0, o_Mo_styleSign_1, o_Mo_styleSign_2, o_Mo_styleSign_3]) 0 200 (List.forall_mem_cons.mpr ⟨oo_Mo_styleSign_0, List.forall_mem_cons.mpr ⟨oo_Mo_styleSign_1, List.forall_mem_cons.mpr ⟨oo_Mo_styleSign_2, List.forall_mem_cons.mpr ⟨oo_Mo_styleSign_3, List.forall_mem_nil _⟩⟩⟩⟩) (by decide +kernel) ⟨List.forall_mem_cons.mpr ⟨gf_Mo_342, List.forall_mem_cons.mpr ⟨gf_Mo_345, List.forall_mem_cons.mpr ⟨gf_Mo_413, List.forall_mem_cons.mpr ⟨gf_Mo_1169, List.forall_mem_nil _⟩⟩⟩⟩, List.forall_mem_nil _, List.forall_mem_nil _, List.forall_mem_nil _, List.forall_mem_nil _, GG_pl⟩ (by decide +kernel)
def o_Mo_tail_0 : or_T := (15, 8, [(0, (2, 0, 0, [150])), (1, (0, 0, 47, [])), (2, (2, 0, 0, [152])), (3, (0, 0, 66297, [])), (4, (0, 267, 267, [])), (5, (0, 267, 66564, [])), (6, (0, 267, 66611, [])), (7, (0, 0, 23, []))], [(10, [7, 2, 6], []), (1, [6, 5, 1], []), (1, [5, 3, 4], []), (9, [3, 0], [5]), (9, [2, 0], [2])], [], [], [(20, [7, 0, 1], [50, 1, 1, 1005, 1002, 1, 2, 1, 0, 3, 1, 2, 4, 7, 4, 3, 2, 1, 5, 0, 267, 1, 2])], [], [(6, 1, 267, 66564), (6, 5, 0, 47), (6, 3, 267, 314), (5, 3, 267, 267)])
theorem oo_Mo_tail_0 {kA : Nat → ClassId} : or_ok kA GG o_Mo_tail_0 := by
  intro A ta ws vs hD hth hl hk hds hf
  have hl : vs.length = 8 := hl
  have hk : ∀ q ∈ ([(0, (2, 0, 0, [150])), (1, (0, 0, 47, [])), (2, (2, 0, 0, [152])), (3, (0, 0, 66297, [])), (4, (0, 267, 267, [])), (5, (0, 267, 66564, [])), (6, (0, 267, 66611, [])), (7, (0, 0, 23, []))] : List (Nat × tv_T)), tv_ok ta q.2 (n_v vs q.1) := hk
  obtain ⟨t0, hk⟩ := List.forall_mem_cons.mp hk
  have t0 : tv_ok ta (2, 0, 0, [150]) (n_v vs 0) := t0
  have r0 : ta (v_ad (n_v vs 0)) = some 150 := tv_rg t0
  obtain ⟨t1, hk⟩ := List.forall_mem_cons.mp hk
  have t1 : tv_ok ta (0, 0, 47, []) (n_v vs 1) := t1
  have k1 : 0 ≤ v_iv (n_v vs 1) ∧ v_iv (n_v vs 1) ≤ 47 := tv_rng t1
  obtain ⟨t2, hk⟩ := List.forall_mem_cons.mp hk
  have t2 : tv_ok ta (2, 0, 0, [152]) (n_v vs 2) := t2
  have r2 : ta (v_ad (n_v vs 2)) = some 152 := tv_rg t2
  obtain ⟨t3, hk⟩ := List.forall_mem_cons.mp hk
  have t3 : tv_ok ta (0, 0, 66297, []) (n_v vs 3) := t3
  have k3 : 0 ≤ v_iv (n_v vs 3) ∧ v_iv (n_v vs 3) ≤ 66297 := tv_rng t3
  obtain ⟨t4, hk⟩ := List.forall_mem_cons.mp hk
  have t4 : tv_ok ta (0, 267, 267, []) (n_v vs 4) := t4
  have k4 : 267 ≤ v_iv (n_v vs 4) ∧ v_iv (n_v vs 4) ≤ 267 := tv_rng t4
  obtain ⟨t5, hk⟩ := List.forall_mem_cons.mp hk
  have t5 : tv_ok ta (0, 267, 66564, []) (n_v vs 5) := t5
  have k5 : 267 ≤ v_iv (n_v vs 5) ∧ v_iv (n_v vs 5) ≤ 66564 := tv_rng t5
  obtain ⟨t6, hk⟩ := List.forall_mem_cons.mp hk
  have t6 : tv_ok ta (0, 267, 66611, []) (n_v vs 6) := t6
  have k6 : 267 ≤ v_iv (n_v vs 6) ∧ v_iv (n_v vs 6) ≤ 66611 := tv_rng t6
  obtain ⟨t7, hk⟩ := List.forall_mem_cons.mp hk
  have t7 : tv_ok ta (0, 0, 23, []) (n_v vs 7) := t7
  have k7 : 0 ≤ v_iv (n_v vs 7) ∧ v_iv (n_v vs 7) ≤ 23 := tv_rng t7
  have hds : ∀ q ∈ ([(6, 1, 267, 66564), (6, 5, 0, 47), (6, 3, 267, 314), (5, 3, 267, 267)] : List of_T), n_iv vs q.2.1 + q.2.2.1 ≤ n_iv vs q.1 ∧ n_iv vs q.1 ≤ n_iv vs q.2.1 + q.2.2.2 := hds
  obtain ⟨d0, hds⟩ := List.forall_mem_cons.mp hds
  have d0 : v_iv (n_v vs 1) + 267 ≤ v_iv (n_v vs 6) ∧ v_iv (n_v vs 6) ≤ v_iv (n_v vs 1) + 66564 := d0
  obtain ⟨d1, hds⟩ := List.forall_mem_cons.mp hds
  have d1 : v_iv (n_v vs 5) + 0 ≤ v_iv (n_v vs 6) ∧ v_iv (n_v vs 6) ≤ v_iv (n_v vs 5) + 47 := d1
  obtain ⟨d2, hds⟩ := List.forall_mem_cons.mp hds
  have d2 : v_iv (n_v vs 3) + 267 ≤ v_iv (n_v vs 6) ∧ v_iv (n_v vs 6) ≤ v_iv (n_v vs 3) + 314 := d2
  obtain ⟨d3, hds⟩ := List.forall_mem_cons.mp hds
  have d3 : v_iv (n_v vs 3) + 267 ≤ v_iv (n_v vs 5) ∧ v_iv (n_v vs 5) ≤ v_iv (n_v vs 3) + 267 := d3
  have hf : fc_ok [(10, [7, 2, 6], []), (1, [6, 5, 1], []), (1, [5, 3, 4], []), (9, [3, 0], [5]), (9, [2, 0], [2])] ta ws vs := hf
  obtain ⟨f0, hf⟩ := fc_un (show (10 : Nat) < 100 from by decide) hf
  have f0 : v_iv (n_v vs 7) = w_el ws (v_ad (n_v vs 2)) (v_iv (n_v vs 6)).toNat := f0
  obtain ⟨f1, hf⟩ := fc_un (show (1 : Nat) < 100 from by decide) hf
  have f1 : v_iv (n_v vs 6) = v_iv (n_v vs 5) + v_iv (n_v vs 1) := f1
  obtain ⟨f2, hf⟩ := fc_un (show (1 : Nat) < 100 from by decide) hf
  have f2 : v_iv (n_v vs 5) = v_iv (n_v vs 3) + v_iv (n_v vs 4) := f2
  obtain ⟨f3, hf⟩ := fc_un (show (9 : Nat) < 100 from by decide) hf
  have f3 : n_v vs 3 = w_fd ws (v_ad (n_v vs 0)) 5 := f3
  obtain ⟨f4, hf⟩ := fc_un (show (9 : Nat) < 100 from by decide) hf
  have f4 : n_v vs 2 = w_fd ws (v_ad (n_v vs 0)) 2 := f4
  have cr_0_2 : ta (w_ar ws (n_v vs 0) 2) = some 152 := tv_rg (th_fd hD hth r0 (g := GG_150) rfl (k := 2) (t := (2, 0, 0, [152])) rfl rfl)
  have ad_2 : v_ad (n_v vs 2) = w_ar ws (n_v vs 0) 2 := congrArg v_ad f4
  rw [ad_2] at f0
  have h0 : v_iv (n_v vs 7) = w_ei ws (w_ar ws (n_v vs 0) 2) (v_iv (n_v vs 6)) := f0
  have g3 : v_iv (n_v vs 3) = w_fi ws (n_v vs 0) 5 := congrArg v_iv f3
  have br_0_2_6_0 : w_ei ws (w_ar ws (n_v vs 0) 2) (v_iv (n_v vs 6)) = w_el ws (w_ar ws (n_v vs 0) 2) (v_iv (n_v vs 6)).toNat := rfl
  have nf0 : fc_1 (20, [7, 0, 1], [50, 1, 1, 1005, 1002, 1, 2, 1, 0, 3, 1, 2, 4, 7, 4, 3, 2, 1, 5, 0, 267, 1, 2]) ws (vs) := by
    refine ⟨fun n hn => ?_, ?_⟩
    · have hn : n ∈ [7, 0, 1] := hn
      rw [hl]
      simp only [List.mem_cons, List.not_mem_nil, or_false] at hn
      show n < 8; omega
    · show v_iv (n_v vs 7) = w_ei ws (w_ar ws (n_v vs 0) 2) (((w_fi ws (n_v vs 0) 5 + 267) + v_iv (n_v vs 1)))
      first | omega | grind
  refine ⟨(fun _ h => (by cases h)), [], trivial, ?_, (fun _ h => (by cases h))⟩
  rw [List.append_nil]
  exact List.forall_mem_cons.mpr ⟨⟨show (20 : Nat) < 100 from by decide, nf0⟩, (fun _ h => (by cases h))⟩
def n_Mo_tail_an : List an_T := []
def t_Mo_tail_ct : ct_L := []
set_option maxRecDepth 100000 in
theorem c_Mo_tail {l : Launch} {D : va_G} {kA : Nat → ClassId} : ct_ok l D kA GG y_Mo_tail z_Mo_tail e_Mo_tail := chk_all_ok (FT := [(16, 13, 2), (391, 13, 5)]) (PT := []) (CT := t_Mo_tail_ct) (KT := []) (NT := []) (AN := n_Mo_tail_an) (OT := [o_Mo_tail_0]) 0 200 (List.forall_mem_cons.mpr ⟨oo_Mo_tail_0, List.forall_mem_nil _⟩) (by decide +kernel) ⟨List.forall_mem_cons.mpr ⟨gf_Mo_16, List.forall_mem_cons.mpr ⟨gf_Mo_391, List.forall_mem_nil _⟩⟩, List.forall_mem_nil _, List.forall_mem_nil _, List.forall_mem_nil _, List.forall_mem_nil _, GG_pl⟩ (by decide +kernel)
def o_Mo_comma_0 : or_T := (10, 5, [(0, (2, 0, 0, [150])), (1, (0, 0, 2009, [])), (3, (0, 0, 0, [])), (4, (0, 0, 0, []))], [(8, [3], [0]), (20, [3, 0], [50, 1, 1, 1158, 1160, 4, 6, 1, 2, 1, 0, 0, 1, 1, 6, 3, 1, 160, 2, 1, 158, 0, 3]), (20, [0], [50, 2, 1, 158, 157, 160, 2, 12, 0, 7, 4, 3, 2, 0, 158, 0, 1, 2, 0, 157, 2, 7, 0, 3, 2, 0, 157, 0, 2010, 3, 14, 1, 10, 3, 0, 160, 5, 3, 2, 0, 157, 0, 1, 0, 0, 1, 10, 3, 0, 160, 5, 3, 2, 0, 157, 0, 1, 0, 4]), (20, [0, 1], [30, 0, 1, 1, 158, -1, 0, 0]), (20, [0, 1], [30, 0, -1, 1, 158, 1, 0, 0])], [], [], [(20, [1, 4, 0], [30, 0, 1, 0, 0, 1, 0, 0, -1, 1, 158])], [], [])
theorem oo_Mo_comma_0 {kA : Nat → ClassId} : or_ok kA GG o_Mo_comma_0 := by
  intro A ta ws vs hD hth hl hk hds hf
  have hl : vs.length = 5 := hl
  have hk : ∀ q ∈ ([(0, (2, 0, 0, [150])), (1, (0, 0, 2009, [])), (3, (0, 0, 0, [])), (4, (0, 0, 0, []))] : List (Nat × tv_T)), tv_ok ta q.2 (n_v vs q.1) := hk
  obtain ⟨t0, hk⟩ := List.forall_mem_cons.mp hk
  have t0 : tv_ok ta (2, 0, 0, [150]) (n_v vs 0) := t0
  have r0 : ta (v_ad (n_v vs 0)) = some 150 := tv_rg t0
  obtain ⟨t1, hk⟩ := List.forall_mem_cons.mp hk
  have t1 : tv_ok ta (0, 0, 2009, []) (n_v vs 1) := t1
  have k1 : 0 ≤ v_iv (n_v vs 1) ∧ v_iv (n_v vs 1) ≤ 2009 := tv_rng t1
  obtain ⟨t3, hk⟩ := List.forall_mem_cons.mp hk
  have t3 : tv_ok ta (0, 0, 0, []) (n_v vs 3) := t3
  have k3 : 0 ≤ v_iv (n_v vs 3) ∧ v_iv (n_v vs 3) ≤ 0 := tv_rng t3
  obtain ⟨t4, hk⟩ := List.forall_mem_cons.mp hk
  have t4 : tv_ok ta (0, 0, 0, []) (n_v vs 4) := t4
  have k4 : 0 ≤ v_iv (n_v vs 4) ∧ v_iv (n_v vs 4) ≤ 0 := tv_rng t4
  have hf : fc_ok [(8, [3], [0]), (20, [3, 0], [50, 1, 1, 1158, 1160, 4, 6, 1, 2, 1, 0, 0, 1, 1, 6, 3, 1, 160, 2, 1, 158, 0, 3]), (20, [0], [50, 2, 1, 158, 157, 160, 2, 12, 0, 7, 4, 3, 2, 0, 158, 0, 1, 2, 0, 157, 2, 7, 0, 3, 2, 0, 157, 0, 2010, 3, 14, 1, 10, 3, 0, 160, 5, 3, 2, 0, 157, 0, 1, 0, 0, 1, 10, 3, 0, 160, 5, 3, 2, 0, 157, 0, 1, 0, 4]), (20, [0, 1], [30, 0, 1, 1, 158, -1, 0, 0]), (20, [0, 1], [30, 0, -1, 1, 158, 1, 0, 0])] ta ws vs := hf
  obtain ⟨f0, hf⟩ := fc_un (show (8 : Nat) < 100 from by decide) hf
  have f0 : v_iv (n_v vs 3) = 0 := f0
  obtain ⟨f1, hf⟩ := fc_un (show (20 : Nat) < 100 from by decide) hf
  have f1 : (v_iv (n_v vs 3) = 1) → (w_ei ws (w_ar ws (n_v vs 0) 160) (w_fi ws (n_v vs 0) 158) = 3) := f1
  obtain ⟨f2, hf⟩ := fc_un (show (20 : Nat) < 100 from by decide) hf
  have f2 : ((w_fi ws (n_v vs 0) 158 + 1) ≤ w_fi ws (n_v vs 0) 157) ∧ ((w_fi ws (n_v vs 0) 157 ≤ 2010) ∧ ((w_ei ws (w_ar ws (n_v vs 0) 160) ((w_fi ws (n_v vs 0) 157 - 1)) = 0) ∨ (w_ei ws (w_ar ws (n_v vs 0) 160) ((w_fi ws (n_v vs 0) 157 - 1)) = 4))) := f2
  obtain ⟨f3, hf⟩ := fc_un (show (20 : Nat) < 100 from by decide) hf
  have f3 : 1 * w_fi ws (n_v vs 0) 158 + ((-1) * v_iv (n_v vs 1) + 0) ≤ 0 := f3
  obtain ⟨f4, hf⟩ := fc_un (show (20 : Nat) < 100 from by decide) hf
  have f4 : (-1) * w_fi ws (n_v vs 0) 158 + (1 * v_iv (n_v vs 1) + 0) ≤ 0 := f4
  have cr_0_160 : ta (w_ar ws (n_v vs 0) 160) = some 259 := tv_rg (th_fd hD hth r0 (g := GG_150) rfl (k := 160) (t := (2, 0, 0, [259])) rfl rfl)
  have hK_0_160 : ∀ j : Int, 0 ≤ j → j < 2010 → 0 ≤ w_ei ws (w_ar ws (n_v vs 0) 160) j ∧ w_ei ws (w_ar ws (n_v vs 0) 160) j ≤ 4 := fun j h0 h1 => th_el hD hth cr_0_160 (kd := 0) (n := 2010) (m := 2010) (lo := 0) (hi := 4) (rs := []) (L := []) rfl (by decide) (j := j.toNat) (by omega)
  have kz_0_157 : 0 ≤ w_fi ws (n_v vs 0) 157 ∧ w_fi ws (n_v vs 0) 157 ≤ 2010 := tv_rng (th_fd hD hth r0 (g := GG_150) rfl (k := 157) (t := (0, 0, 2010, [])) rfl rfl)
  have kz_0_158 : 0 ≤ w_fi ws (n_v vs 0) 158 ∧ w_fi ws (n_v vs 0) 158 ≤ 2009 := tv_rng (th_fd hD hth r0 (g := GG_150) rfl (k := 158) (t := (0, 0, 2009, [])) rfl rfl)
  have nf0 : fc_1 (20, [1, 4, 0], [30, 0, 1, 0, 0, 1, 0, 0, -1, 1, 158]) ws (vs) := by
    refine ⟨fun n hn => ?_, ?_⟩
    · have hn : n ∈ [1, 4, 0] := hn
      rw [hl]
      simp only [List.mem_cons, List.not_mem_nil, or_false] at hn
      show n < 5; omega
    · show 1 * v_iv (n_v vs 1) + (1 * v_iv (n_v vs 4) + ((-1) * w_fi ws (n_v vs 0) 158 + 0)) ≤ 0
      omega
  refine ⟨(fun _ h => (by cases h)), [], trivial, ?_, (fun _ h => (by cases h))⟩
  rw [List.append_nil]
  exact List.forall_mem_cons.mpr ⟨⟨show (20 : Nat) < 100 from by decide, nf0⟩, (fun _ h => (by cases h))⟩
def o_Mo_comma_1 : or_T := (18, 7, [(0, (2, 0, 0, [150])), (1, (0, 0, 2009, [])), (3, (0, 1, 1, [])), (4, (0, 0, 2009, [])), (5, (0, 1, 1, [])), (6, (0, 1, 2010, []))], [(1, [6, 4, 5], []), (9, [4, 0], [158]), (8, [3], [1]), (20, [3, 0], [50, 1, 1, 1158, 1160, 4, 6, 1, 2, 1, 0, 0, 1, 1, 6, 3, 1, 160, 2, 1, 158, 0, 3]), (20, [0], [50, 2, 1, 158, 157, 160, 2, 12, 0, 7, 4, 3, 2, 0, 158, 0, 1, 2, 0, 157, 2, 7, 0, 3, 2, 0, 157, 0, 2010, 3, 14, 1, 10, 3, 0, 160, 5, 3, 2, 0, 157, 0, 1, 0, 0, 1, 10, 3, 0, 160, 5, 3, 2, 0, 157, 0, 1, 0, 4]), (20, [0, 1], [30, 0, 1, 1, 158, -1, 0, 0]), (20, [0, 1], [30, 0, -1, 1, 158, 1, 0, 0])], [(6, (0, 1, 2009, []))], [], [], [], [(6, 4, 1, 1)])
theorem oo_Mo_comma_1 {kA : Nat → ClassId} : or_ok kA GG o_Mo_comma_1 := by
  intro A ta ws vs hD hth hl hk hds hf
  have hl : vs.length = 7 := hl
  have hk : ∀ q ∈ ([(0, (2, 0, 0, [150])), (1, (0, 0, 2009, [])), (3, (0, 1, 1, [])), (4, (0, 0, 2009, [])), (5, (0, 1, 1, [])), (6, (0, 1, 2010, []))] : List (Nat × tv_T)), tv_ok ta q.2 (n_v vs q.1) := hk
  obtain ⟨t0, hk⟩ := List.forall_mem_cons.mp hk
  have t0 : tv_ok ta (2, 0, 0, [150]) (n_v vs 0) := t0
  have r0 : ta (v_ad (n_v vs 0)) = some 150 := tv_rg t0
  obtain ⟨t1, hk⟩ := List.forall_mem_cons.mp hk
  have t1 : tv_ok ta (0, 0, 2009, []) (n_v vs 1) := t1
  have k1 : 0 ≤ v_iv (n_v vs 1) ∧ v_iv (n_v vs 1) ≤ 2009 := tv_rng t1
  obtain ⟨t3, hk⟩ := List.forall_mem_cons.mp hk
  have t3 : tv_ok ta (0, 1, 1, []) (n_v vs 3) := t3
  have k3 : 1 ≤ v_iv (n_v vs 3) ∧ v_iv (n_v vs 3) ≤ 1 := tv_rng t3
  obtain ⟨t4, hk⟩ := List.forall_mem_cons.mp hk
  have t4 : tv_ok ta (0, 0, 2009, []) (n_v vs 4) := t4
  have k4 : 0 ≤ v_iv (n_v vs 4) ∧ v_iv (n_v vs 4) ≤ 2009 := tv_rng t4
  obtain ⟨t5, hk⟩ := List.forall_mem_cons.mp hk
  have t5 : tv_ok ta (0, 1, 1, []) (n_v vs 5) := t5
  have k5 : 1 ≤ v_iv (n_v vs 5) ∧ v_iv (n_v vs 5) ≤ 1 := tv_rng t5
  obtain ⟨t6, hk⟩ := List.forall_mem_cons.mp hk
  have t6 : tv_ok ta (0, 1, 2010, []) (n_v vs 6) := t6
  have k6 : 1 ≤ v_iv (n_v vs 6) ∧ v_iv (n_v vs 6) ≤ 2010 := tv_rng t6
  have hds : ∀ q ∈ ([(6, 4, 1, 1)] : List of_T), n_iv vs q.2.1 + q.2.2.1 ≤ n_iv vs q.1 ∧ n_iv vs q.1 ≤ n_iv vs q.2.1 + q.2.2.2 := hds
  obtain ⟨d0, hds⟩ := List.forall_mem_cons.mp hds
  have d0 : v_iv (n_v vs 4) + 1 ≤ v_iv (n_v vs 6) ∧ v_iv (n_v vs 6) ≤ v_iv (n_v vs 4) + 1 := d0
  have hf : fc_ok [(1, [6, 4, 5], []), (9, [4, 0], [158]), (8, [3], [1]), (20, [3, 0], [50, 1, 1, 1158, 1160, 4, 6, 1, 2, 1, 0, 0, 1, 1, 6, 3, 1, 160, 2, 1, 158, 0, 3]), (20, [0], [50, 2, 1, 158, 157, 160, 2, 12, 0, 7, 4, 3, 2, 0, 158, 0, 1, 2, 0, 157, 2, 7, 0, 3, 2, 0, 157, 0, 2010, 3, 14, 1, 10, 3, 0, 160, 5, 3, 2, 0, 157, 0, 1, 0, 0, 1, 10, 3, 0, 160, 5, 3, 2, 0, 157, 0, 1, 0, 4]), (20, [0, 1], [30, 0, 1, 1, 158, -1, 0, 0]), (20, [0, 1], [30, 0, -1, 1, 158, 1, 0, 0])] ta ws vs := hf
  obtain ⟨f0, hf⟩ := fc_un (show (1 : Nat) < 100 from by decide) hf
  have f0 : v_iv (n_v vs 6) = v_iv (n_v vs 4) + v_iv (n_v vs 5) := f0
  obtain ⟨f1, hf⟩ := fc_un (show (9 : Nat) < 100 from by decide) hf
  have f1 : n_v vs 4 = w_fd ws (v_ad (n_v vs 0)) 158 := f1
  obtain ⟨f2, hf⟩ := fc_un (show (8 : Nat) < 100 from by decide) hf
  have f2 : v_iv (n_v vs 3) ≠ 0 := f2
  obtain ⟨f3, hf⟩ := fc_un (show (20 : Nat) < 100 from by decide) hf
  have f3 : (v_iv (n_v vs 3) = 1) → (w_ei ws (w_ar ws (n_v vs 0) 160) (w_fi ws (n_v vs 0) 158) = 3) := f3
  obtain ⟨f4, hf⟩ := fc_un (show (20 : Nat) < 100 from by decide) hf
  have f4 : ((w_fi ws (n_v vs 0) 158 + 1) ≤ w_fi ws (n_v vs 0) 157) ∧ ((w_fi ws (n_v vs 0) 157 ≤ 2010) ∧ ((w_ei ws (w_ar ws (n_v vs 0) 160) ((w_fi ws (n_v vs 0) 157 - 1)) = 0) ∨ (w_ei ws (w_ar ws (n_v vs 0) 160) ((w_fi ws (n_v vs 0) 157 - 1)) = 4))) := f4
  obtain ⟨f5, hf⟩ := fc_un (show (20 : Nat) < 100 from by decide) hf
  have f5 : 1 * w_fi ws (n_v vs 0) 158 + ((-1) * v_iv (n_v vs 1) + 0) ≤ 0 := f5
  obtain ⟨f6, hf⟩ := fc_un (show (20 : Nat) < 100 from by decide) hf
  have f6 : (-1) * w_fi ws (n_v vs 0) 158 + (1 * v_iv (n_v vs 1) + 0) ≤ 0 := f6
  have cr_0_160 : ta (w_ar ws (n_v vs 0) 160) = some 259 := tv_rg (th_fd hD hth r0 (g := GG_150) rfl (k := 160) (t := (2, 0, 0, [259])) rfl rfl)
  have g1 : v_iv (n_v vs 4) = w_fi ws (n_v vs 0) 158 := congrArg v_iv f1
  have hK_0_160 : ∀ j : Int, 0 ≤ j → j < 2010 → 0 ≤ w_ei ws (w_ar ws (n_v vs 0) 160) j ∧ w_ei ws (w_ar ws (n_v vs 0) 160) j ≤ 4 := fun j h0 h1 => th_el hD hth cr_0_160 (kd := 0) (n := 2010) (m := 2010) (lo := 0) (hi := 4) (rs := []) (L := []) rfl (by decide) (j := j.toNat) (by omega)
  have kz_0_157 : 0 ≤ w_fi ws (n_v vs 0) 157 ∧ w_fi ws (n_v vs 0) 157 ≤ 2010 := tv_rng (th_fd hD hth r0 (g := GG_150) rfl (k := 157) (t := (0, 0, 2010, [])) rfl rfl)
  have kz_0_158 : 0 ≤ w_fi ws (n_v vs 0) 158 ∧ w_fi ws (n_v vs 0) 158 ≤ 2009 := tv_rng (th_fd hD hth r0 (g := GG_150) rfl (k := 158) (t := (0, 0, 2009, [])) rfl rfl)
  have rf6 : tv_ok ta (0, 1, 2009, []) (n_v vs 6) := tv_in t6 (by first | omega | grind) (by first | omega | grind)
  refine ⟨List.forall_mem_cons.mpr ⟨rf6, (fun _ h => (by cases h))⟩, [], trivial, ?_, (fun _ h => (by cases h))⟩
  rw [List.append_nil]
  exact (fun _ h => (by cases h))
def o_Mo_comma_2 : or_T := (22, 8, [(0, (2, 0, 0, [150])), (1, (0, 0, 2009, [])), (3, (0, 1, 1, [])), (4, (0, 0, 2009, [])), (5, (0, 1, 1, [])), (6, (0, 1, 2009, [])), (7, (0, 1, 1, []))], [(101, [0, 6], [158]), (1, [6, 4, 5], []), (9, [4, 0], [158]), (8, [3], [1]), (20, [3, 0], [50, 1, 1, 1158, 1160, 4, 6, 1, 2, 1, 0, 0, 1, 1, 6, 3, 1, 160, 2, 1, 158, 0, 3]), (20, [0], [50, 2, 1, 158, 157, 160, 2, 12, 0, 7, 4, 3, 2, 0, 158, 0, 1, 2, 0, 157, 2, 7, 0, 3, 2, 0, 157, 0, 2010, 3, 14, 1, 10, 3, 0, 160, 5, 3, 2, 0, 157, 0, 1, 0, 0, 1, 10, 3, 0, 160, 5, 3, 2, 0, 157, 0, 1, 0, 4]), (20, [0, 1], [30, 0, 1, 1, 158, -1, 0, 0]), (20, [0, 1], [30, 0, -1, 1, 158, 1, 0, 0])], [], [], [(20, [0], [50, 2, 1, 158, 157, 160, 2, 12, 0, 7, 4, 3, 2, 0, 158, 0, 1, 2, 0, 157, 2, 7, 0, 3, 2, 0, 157, 0, 2010, 3, 14, 1, 10, 3, 0, 160, 5, 3, 2, 0, 157, 0, 1, 0, 0, 1, 10, 3, 0, 160, 5, 3, 2, 0, 157, 0, 1, 0, 4]), (20, [1, 7, 0], [30, 0, 1, 0, 0, 1, 0, 0, -1, 1, 158])], [], [(6, 4, 1, 1)])
theorem oo_Mo_comma_2 {kA : Nat → ClassId} : or_ok kA GG o_Mo_comma_2 := by
  intro A ta ws vs hD hth hl hk hds hf
  have hl : vs.length = 8 := hl
  have hk : ∀ q ∈ ([(0, (2, 0, 0, [150])), (1, (0, 0, 2009, [])), (3, (0, 1, 1, [])), (4, (0, 0, 2009, [])), (5, (0, 1, 1, [])), (6, (0, 1, 2009, [])), (7, (0, 1, 1, []))] : List (Nat × tv_T)), tv_ok ta q.2 (n_v vs q.1) := hk
  obtain ⟨t0, hk⟩ := List.forall_mem_cons.mp hk
  have t0 : tv_ok ta (2, 0, 0, [150]) (n_v vs 0) := t0
  have r0 : ta (v_ad (n_v vs 0)) = some 150 := tv_rg t0
  obtain ⟨t1, hk⟩ := List.forall_mem_cons.mp hk
  have t1 : tv_ok ta (0, 0, 2009, []) (n_v vs 1) := t1
  have k1 : 0 ≤ v_iv (n_v vs 1) ∧ v_iv (n_v vs 1) ≤ 2009 := tv_rng t1
  obtain ⟨t3, hk⟩ := List.forall_mem_cons.mp hk
  have t3 : tv_ok ta (0, 1, 1, []) (n_v vs 3) := t3
  have k3 : 1 ≤ v_iv (n_v vs 3) ∧ v_iv (n_v vs 3) ≤ 1 := tv_rng t3
  obtain ⟨t4, hk⟩ := List.forall_mem_cons.mp hk
  have t4 : tv_ok ta (0, 0, 2009, []) (n_v vs 4) := t4
  have k4 : 0 ≤ v_iv (n_v vs 4) ∧ v_iv (n_v vs 4) ≤ 2009 := tv_rng t4
  obtain ⟨t5, hk⟩ := List.forall_mem_cons.mp hk
  have t5 : tv_ok ta (0, 1, 1, []) (n_v vs 5) := t5
  have k5 : 1 ≤ v_iv (n_v vs 5) ∧ v_iv (n_v vs 5) ≤ 1 := tv_rng t5
  obtain ⟨t6, hk⟩ := List.forall_mem_cons.mp hk
  have t6 : tv_ok ta (0, 1, 2009, []) (n_v vs 6) := t6
  have k6 : 1 ≤ v_iv (n_v vs 6) ∧ v_iv (n_v vs 6) ≤ 2009 := tv_rng t6
  obtain ⟨t7, hk⟩ := List.forall_mem_cons.mp hk
  have t7 : tv_ok ta (0, 1, 1, []) (n_v vs 7) := t7
  have k7 : 1 ≤ v_iv (n_v vs 7) ∧ v_iv (n_v vs 7) ≤ 1 := tv_rng t7
  have hds : ∀ q ∈ ([(6, 4, 1, 1)] : List of_T), n_iv vs q.2.1 + q.2.2.1 ≤ n_iv vs q.1 ∧ n_iv vs q.1 ≤ n_iv vs q.2.1 + q.2.2.2 := hds
  obtain ⟨d0, hds⟩ := List.forall_mem_cons.mp hds
  have d0 : v_iv (n_v vs 4) + 1 ≤ v_iv (n_v vs 6) ∧ v_iv (n_v vs 6) ≤ v_iv (n_v vs 4) + 1 := d0
  have hf : fc_ok [(101, [0, 6], [158]), (1, [6, 4, 5], []), (9, [4, 0], [158]), (8, [3], [1]), (20, [3, 0], [50, 1, 1, 1158, 1160, 4, 6, 1, 2, 1, 0, 0, 1, 1, 6, 3, 1, 160, 2, 1, 158, 0, 3]), (20, [0], [50, 2, 1, 158, 157, 160, 2, 12, 0, 7, 4, 3, 2, 0, 158, 0, 1, 2, 0, 157, 2, 7, 0, 3, 2, 0, 157, 0, 2010, 3, 14, 1, 10, 3, 0, 160, 5, 3, 2, 0, 157, 0, 1, 0, 0, 1, 10, 3, 0, 160, 5, 3, 2, 0, 157, 0, 1, 0, 4]), (20, [0, 1], [30, 0, 1, 1, 158, -1, 0, 0]), (20, [0, 1], [30, 0, -1, 1, 158, 1, 0, 0])] ta ws vs := hf
  obtain ⟨ta1, w1, le1, ⟨_, s1⟩, hf⟩ := fc_us (show ¬ (101 : Nat) < 100 from by decide) hf
  have s1 : (∀ b j, w_el ws b j = w_el w1 b j) ∧ ∀ b j, w_fd ws b j = if b = v_ad (n_v vs 0) ∧ j = 158 then n_v vs 6 else w_fd w1 b j := s1
  obtain ⟨f1, hf⟩ := fc_un (show (1 : Nat) < 100 from by decide) hf
  have f1 : v_iv (n_v vs 6) = v_iv (n_v vs 4) + v_iv (n_v vs 5) := f1
  obtain ⟨f2, hf⟩ := fc_un (show (9 : Nat) < 100 from by decide) hf
  have f2 : n_v vs 4 = w_fd w1 (v_ad (n_v vs 0)) 158 := f2
  obtain ⟨f3, hf⟩ := fc_un (show (8 : Nat) < 100 from by decide) hf
  have f3 : v_iv (n_v vs 3) ≠ 0 := f3
  obtain ⟨f4, hf⟩ := fc_un (show (20 : Nat) < 100 from by decide) hf
  have f4 : (v_iv (n_v vs 3) = 1) → (w_ei w1 (w_ar w1 (n_v vs 0) 160) (w_fi w1 (n_v vs 0) 158) = 3) := f4
  obtain ⟨f5, hf⟩ := fc_un (show (20 : Nat) < 100 from by decide) hf
  have f5 : ((w_fi w1 (n_v vs 0) 158 + 1) ≤ w_fi w1 (n_v vs 0) 157) ∧ ((w_fi w1 (n_v vs 0) 157 ≤ 2010) ∧ ((w_ei w1 (w_ar w1 (n_v vs 0) 160) ((w_fi w1 (n_v vs 0) 157 - 1)) = 0) ∨ (w_ei w1 (w_ar w1 (n_v vs 0) 160) ((w_fi w1 (n_v vs 0) 157 - 1)) = 4))) := f5
  obtain ⟨f6, hf⟩ := fc_un (show (20 : Nat) < 100 from by decide) hf
  have f6 : 1 * w_fi w1 (n_v vs 0) 158 + ((-1) * v_iv (n_v vs 1) + 0) ≤ 0 := f6
  obtain ⟨f7, hf⟩ := fc_un (show (20 : Nat) < 100 from by decide) hf
  have f7 : (-1) * w_fi w1 (n_v vs 0) 158 + (1 * v_iv (n_v vs 1) + 0) ≤ 0 := f7
  have ar_0_160_1 : w_ar w1 (n_v vs 0) 160 = w_ar ws (n_v vs 0) 160 := by show v_ad (w_fd w1 _ _) = v_ad (w_fd ws _ _); rw [s1.2, if_neg (fun e => absurd e.2 (by decide))]
  have cr_0_160 : ta (w_ar ws (n_v vs 0) 160) = some 259 := tv_rg (th_fd hD hth r0 (g := GG_150) rfl (k := 160) (t := (2, 0, 0, [259])) rfl rfl)
  have g2 : v_iv (n_v vs 4) = w_fi w1 (n_v vs 0) 158 := congrArg v_iv f2
  rw [ar_0_160_1] at f4
  rw [ar_0_160_1] at f5
  have fe_0_157_1 : w_fi ws (n_v vs 0) 157 = w_fi w1 (n_v vs 0) 157 := by show v_iv (w_fd _ _ _) = v_iv (w_fd _ _ _); rw [s1.2, if_neg (fun e => absurd e.2 (by decide))]
  have fe_0_158_1 : w_fi ws (n_v vs 0) 158 = v_iv (n_v vs 6) := by show v_iv (w_fd _ _ _) = _; rw [s1.2, if_pos ⟨rfl, rfl⟩]
  have hE_0_160_1 : ∀ j : Int, w_ei ws (w_ar ws (n_v vs 0) 160) j = w_ei w1 (w_ar ws (n_v vs 0) 160) j := fun j => s1.1 _ _
  have hK_0_160 : ∀ j : Int, 0 ≤ j → j < 2010 → 0 ≤ w_ei ws (w_ar ws (n_v vs 0) 160) j ∧ w_ei ws (w_ar ws (n_v vs 0) 160) j ≤ 4 := fun j h0 h1 => th_el hD hth cr_0_160 (kd := 0) (n := 2010) (m := 2010) (lo := 0) (hi := 4) (rs := []) (L := []) rfl (by decide) (j := j.toNat) (by omega)
  have kz_0_157 : 0 ≤ w_fi ws (n_v vs 0) 157 ∧ w_fi ws (n_v vs 0) 157 ≤ 2010 := tv_rng (th_fd hD hth r0 (g := GG_150) rfl (k := 157) (t := (0, 0, 2010, [])) rfl rfl)
  have kz_0_158 : 0 ≤ w_fi ws (n_v vs 0) 158 ∧ w_fi ws (n_v vs 0) 158 ≤ 2009 := tv_rng (th_fd hD hth r0 (g := GG_150) rfl (k := 158) (t := (0, 0, 2009, [])) rfl rfl)
  have nf0 : fc_1 (20, [0], [50, 2, 1, 158, 157, 160, 2, 12, 0, 7, 4, 3, 2, 0, 158, 0, 1, 2, 0, 157, 2, 7, 0, 3, 2, 0, 157, 0, 2010, 3, 14, 1, 10, 3, 0, 160, 5, 3, 2, 0, 157, 0, 1, 0, 0, 1, 10, 3, 0, 160, 5, 3, 2, 0, 157, 0, 1, 0, 4]) ws (vs) := by
    refine ⟨fun n hn => ?_, ?_⟩
    · have hn : n ∈ [0] := hn
      rw [hl]
      simp only [List.mem_cons, List.not_mem_nil, or_false] at hn
      show n < 8; omega
    · show ((w_fi ws (n_v vs 0) 158 + 1) ≤ w_fi ws (n_v vs 0) 157) ∧ ((w_fi ws (n_v vs 0) 157 ≤ 2010) ∧ ((w_ei ws (w_ar ws (n_v vs 0) 160) ((w_fi ws (n_v vs 0) 157 - 1)) = 0) ∨ (w_ei ws (w_ar ws (n_v vs 0) 160) ((w_fi ws (n_v vs 0) 157 - 1)) = 4)))
      first | omega | grind
  have nf1 : fc_1 (20, [1, 7, 0], [30, 0, 1, 0, 0, 1, 0, 0, -1, 1, 158]) ws (vs) := by
    refine ⟨fun n hn => ?_, ?_⟩
    · have hn : n ∈ [1, 7, 0] := hn
      rw [hl]
      simp only [List.mem_cons, List.not_mem_nil, or_false] at hn
      show n < 8; omega
    · show 1 * v_iv (n_v vs 1) + (1 * v_iv (n_v vs 7) + ((-1) * w_fi ws (n_v vs 0) 158 + 0)) ≤ 0
      omega
  refine ⟨(fun _ h => (by cases h)), [], trivial, ?_, (fun _ h => (by cases h))⟩
  rw [List.append_nil]
  exact List.forall_mem_cons.mpr ⟨⟨show (20 : Nat) < 100 from by decide, nf0⟩, List.forall_mem_cons.mpr ⟨⟨show (20 : Nat) < 100 from by decide, nf1⟩, (fun _ h => (by cases h))⟩⟩
def n_Mo_comma_an : List an_T := []
def t_Mo_comma_ct : ct_L := [(1, 1172, e_Mo_styleSign)]
set_option maxRecDepth 100000 in
theorem c_Mo_comma {l : Launch} {D : va_G} {kA : Nat → ClassId} (h_Mo_styleSign : ct_ok l D kA GG y_Mo_styleSign z_Mo_styleSign e_Mo_styleSign) : ct_ok l D kA GG y_Mo_comma z_Mo_comma e_Mo_comma := chk_all_ok (FT := [(1169, 13, 158)]) (PT := [(1169, 13, 158, .int)]) (CT := t_Mo_comma_ct) (KT := []) (NT := []) (AN := n_Mo_comma_an) (OT := [o_Mo_comma_0, o_Mo_comma_1, o_Mo_comma_2]) 0 200 (List.forall_mem_cons.mpr ⟨oo_Mo_comma_0, List.forall_mem_cons.mpr ⟨oo_Mo_comma_1, List.forall_mem_cons.mpr ⟨oo_Mo_comma_2, List.forall_mem_nil _⟩⟩⟩) (by decide +kernel) ⟨List.forall_mem_cons.mpr ⟨gf_Mo_1169, List.forall_mem_nil _⟩, List.forall_mem_cons.mpr ⟨pf_Mo_1169, List.forall_mem_nil _⟩, List.forall_mem_cons.mpr ⟨cl_virtual (y := y_Mo_styleSign) (ci := 13) rfl rfl ⟨_, _, rfl⟩ (by decide +kernel) h_Mo_styleSign wm_3832 wm_9 wm_3829 wm_3831 wv_23_11 ⟨by decide, by decide, by decide +kernel⟩ (by decide), List.forall_mem_nil _⟩, List.forall_mem_nil _, List.forall_mem_nil _, GG_pl⟩ (by decide +kernel)
def o_Mo_newEdge_at_g0_0 : or_T := (4, 6, [(0, (2, 0, 0, [150])), (4, (0, 0, 7, [])), (5, (0, 0, 48, []))], [(20, [5, 0], [30, 0, 1, 0, 0, -1, 3, 2005001]), (20, [5, 0], [30, 0, -1, 0, 0, 1, 3, 2005001]), (20, [0], [30, 47, 1, 3, 2005001]), (20, [4, 0], [50, 1, 1, 1005, 1002, 0, 6, 4, 2, 1, 0, 0, 1, 3, 1, 2, 4, 3, 2, 1, 5, 0, 2])], [(5, (0, 0, 47, []))], [], [], [], [])
theorem oo_Mo_newEdge_at_g0_0 {kA : Nat → ClassId} : or_ok kA GG o_Mo_newEdge_at_g0_0 := by
  intro A ta ws vs hD hth hl hk hds hf
  have hl : vs.length = 6 := hl
  have hk : ∀ q ∈ ([(0, (2, 0, 0, [150])), (4, (0, 0, 7, [])), (5, (0, 0, 48, []))] : List (Nat × tv_T)), tv_ok ta q.2 (n_v vs q.1) := hk
  obtain ⟨t0, hk⟩ := List.forall_mem_cons.mp hk
  have t0 : tv_ok ta (2, 0, 0, [150]) (n_v vs 0) := t0
  have r0 : ta (v_ad (n_v vs 0)) = some 150 := tv_rg t0
  obtain ⟨t4, hk⟩ := List.forall_mem_cons.mp hk
  have t4 : tv_ok ta (0, 0, 7, []) (n_v vs 4) := t4
  have k4 : 0 ≤ v_iv (n_v vs 4) ∧ v_iv (n_v vs 4) ≤ 7 := tv_rng t4
  obtain ⟨t5, hk⟩ := List.forall_mem_cons.mp hk
  have t5 : tv_ok ta (0, 0, 48, []) (n_v vs 5) := t5
  have k5 : 0 ≤ v_iv (n_v vs 5) ∧ v_iv (n_v vs 5) ≤ 48 := tv_rng t5
  have hf : fc_ok [(20, [5, 0], [30, 0, 1, 0, 0, -1, 3, 2005001]), (20, [5, 0], [30, 0, -1, 0, 0, 1, 3, 2005001]), (20, [0], [30, 47, 1, 3, 2005001]), (20, [4, 0], [50, 1, 1, 1005, 1002, 0, 6, 4, 2, 1, 0, 0, 1, 3, 1, 2, 4, 3, 2, 1, 5, 0, 2])] ta ws vs := hf
  obtain ⟨f0, hf⟩ := fc_un (show (20 : Nat) < 100 from by decide) hf
  have f0 : 1 * v_iv (n_v vs 5) + ((-1) * w_el ws (w_ar ws (n_v vs 0) 2) (w_fi ws (n_v vs 0) 5 + 1).toNat + 0) ≤ 0 := f0
  obtain ⟨f1, hf⟩ := fc_un (show (20 : Nat) < 100 from by decide) hf
  have f1 : (-1) * v_iv (n_v vs 5) + (1 * w_el ws (w_ar ws (n_v vs 0) 2) (w_fi ws (n_v vs 0) 5 + 1).toNat + 0) ≤ 0 := f1
  obtain ⟨f2, hf⟩ := fc_un (show (20 : Nat) < 100 from by decide) hf
  have f2 : 1 * w_el ws (w_ar ws (n_v vs 0) 2) (w_fi ws (n_v vs 0) 5 + 1).toNat + 0 ≤ 47 := f2
  obtain ⟨f3, hf⟩ := fc_un (show (20 : Nat) < 100 from by decide) hf
  have f3 : (v_iv (n_v vs 4) + 1) ≤ w_ei ws (w_ar ws (n_v vs 0) 2) ((w_fi ws (n_v vs 0) 5 + 2)) := f3
  have cr_0_2 : ta (w_ar ws (n_v vs 0) 2) = some 152 := tv_rg (th_fd hD hth r0 (g := GG_150) rfl (k := 2) (t := (2, 0, 0, [152])) rfl rfl)
  have br_0_2_F5_1_0 : w_ei ws (w_ar ws (n_v vs 0) 2) (w_fi ws (n_v vs 0) 5 + 1) = w_el ws (w_ar ws (n_v vs 0) 2) (w_fi ws (n_v vs 0) 5 + 1).toNat := rfl
  have rf5 : tv_ok ta (0, 0, 47, []) (n_v vs 5) := tv_in t5 (by first | omega | grind) (by first | omega | grind)
  refine ⟨List.forall_mem_cons.mpr ⟨rf5, (fun _ h => (by cases h))⟩, [], trivial, ?_, (fun _ h => (by cases h))⟩
  rw [List.append_nil]
  exact (fun _ h => (by cases h))
def o_Mo_newEdge_at_g0_1 : or_T := (18, 11, [(0, (2, 0, 0, [150])), (4, (0, 0, 7, [])), (5, (0, 0, 47, [])), (6, (2, 0, 0, [152])), (7, (0, 0, 66297, [])), (8, (0, 1, 1, [])), (9, (0, 1, 66298, [])), (10, (0, 0, 48, []))], [(10, [10, 6, 9], []), (1, [9, 7, 8], []), (9, [7, 0], [5]), (9, [6, 0], [2]), (20, [5, 0], [30, 0, 1, 0, 0, -1, 3, 2005001]), (20, [5, 0], [30, 0, -1, 0, 0, 1, 3, 2005001]), (20, [0], [30, 47, 1, 3, 2005001]), (20, [4, 0], [50, 1, 1, 1005, 1002, 0, 6, 4, 2, 1, 0, 0, 1, 3, 1, 2, 4, 3, 2, 1, 5, 0, 2])], [(10, (0, 0, 47, []))], [], [], [], [(9, 7, 1, 1)])
theorem oo_Mo_newEdge_at_g0_1 {kA : Nat → ClassId} : or_ok kA GG o_Mo_newEdge_at_g0_1 := by
  intro A ta ws vs hD hth hl hk hds hf
  have hl : vs.length = 11 := hl
  have hk : ∀ q ∈ ([(0, (2, 0, 0, [150])), (4, (0, 0, 7, [])), (5, (0, 0, 47, [])), (6, (2, 0, 0, [152])), (7, (0, 0, 66297, [])), (8, (0, 1, 1, [])), (9, (0, 1, 66298, [])), (10, (0, 0, 48, []))] : List (Nat × tv_T)), tv_ok ta q.2 (n_v vs q.1) := hk
  obtain ⟨t0, hk⟩ := List.forall_mem_cons.mp hk
  have t0 : tv_ok ta (2, 0, 0, [150]) (n_v vs 0) := t0
  have r0 : ta (v_ad (n_v vs 0)) = some 150 := tv_rg t0
  obtain ⟨t4, hk⟩ := List.forall_mem_cons.mp hk
  have t4 : tv_ok ta (0, 0, 7, []) (n_v vs 4) := t4
  have k4 : 0 ≤ v_iv (n_v vs 4) ∧ v_iv (n_v vs 4) ≤ 7 := tv_rng t4
  obtain ⟨t5, hk⟩ := List.forall_mem_cons.mp hk
  have t5 : tv_ok ta (0, 0, 47, []) (n_v vs 5) := t5
  have k5 : 0 ≤ v_iv (n_v vs 5) ∧ v_iv (n_v vs 5) ≤ 47 := tv_rng t5
  obtain ⟨t6, hk⟩ := List.forall_mem_cons.mp hk
  have t6 : tv_ok ta (2, 0, 0, [152]) (n_v vs 6) := t6
  have r6 : ta (v_ad (n_v vs 6)) = some 152 := tv_rg t6
  obtain ⟨t7, hk⟩ := List.forall_mem_cons.mp hk
  have t7 : tv_ok ta (0, 0, 66297, []) (n_v vs 7) := t7
  have k7 : 0 ≤ v_iv (n_v vs 7) ∧ v_iv (n_v vs 7) ≤ 66297 := tv_rng t7
  obtain ⟨t8, hk⟩ := List.forall_mem_cons.mp hk
  have t8 : tv_ok ta (0, 1, 1, []) (n_v vs 8) := t8
  have k8 : 1 ≤ v_iv (n_v vs 8) ∧ v_iv (n_v vs 8) ≤ 1 := tv_rng t8
  obtain ⟨t9, hk⟩ := List.forall_mem_cons.mp hk
  have t9 : tv_ok ta (0, 1, 66298, []) (n_v vs 9) := t9
  have k9 : 1 ≤ v_iv (n_v vs 9) ∧ v_iv (n_v vs 9) ≤ 66298 := tv_rng t9
  obtain ⟨t10, hk⟩ := List.forall_mem_cons.mp hk
  have t10 : tv_ok ta (0, 0, 48, []) (n_v vs 10) := t10
  have k10 : 0 ≤ v_iv (n_v vs 10) ∧ v_iv (n_v vs 10) ≤ 48 := tv_rng t10
  have hds : ∀ q ∈ ([(9, 7, 1, 1)] : List of_T), n_iv vs q.2.1 + q.2.2.1 ≤ n_iv vs q.1 ∧ n_iv vs q.1 ≤ n_iv vs q.2.1 + q.2.2.2 := hds
  obtain ⟨d0, hds⟩ := List.forall_mem_cons.mp hds
  have d0 : v_iv (n_v vs 7) + 1 ≤ v_iv (n_v vs 9) ∧ v_iv (n_v vs 9) ≤ v_iv (n_v vs 7) + 1 := d0
  have hf : fc_ok [(10, [10, 6, 9], []), (1, [9, 7, 8], []), (9, [7, 0], [5]), (9, [6, 0], [2]), (20, [5, 0], [30, 0, 1, 0, 0, -1, 3, 2005001]), (20, [5, 0], [30, 0, -1, 0, 0, 1, 3, 2005001]), (20, [0], [30, 47, 1, 3, 2005001]), (20, [4, 0], [50, 1, 1, 1005, 1002, 0, 6, 4, 2, 1, 0, 0, 1, 3, 1, 2, 4, 3, 2, 1, 5, 0, 2])] ta ws vs := hf
  obtain ⟨f0, hf⟩ := fc_un (show (10 : Nat) < 100 from by decide) hf
  have f0 : v_iv (n_v vs 10) = w_el ws (v_ad (n_v vs 6)) (v_iv (n_v vs 9)).toNat := f0
  obtain ⟨f1, hf⟩ := fc_un (show (1 : Nat) < 100 from by decide) hf
  have f1 : v_iv (n_v vs 9) = v_iv (n_v vs 7) + v_iv (n_v vs 8) := f1
  obtain ⟨f2, hf⟩ := fc_un (show (9 : Nat) < 100 from by decide) hf
  have f2 : n_v vs 7 = w_fd ws (v_ad (n_v vs 0)) 5 := f2
  obtain ⟨f3, hf⟩ := fc_un (show (9 : Nat) < 100 from by decide) hf
  have f3 : n_v vs 6 = w_fd ws (v_ad (n_v vs 0)) 2 := f3
  obtain ⟨f4, hf⟩ := fc_un (show (20 : Nat) < 100 from by decide) hf
  have f4 : 1 * v_iv (n_v vs 5) + ((-1) * w_el ws (w_ar ws (n_v vs 0) 2) (w_fi ws (n_v vs 0) 5 + 1).toNat + 0) ≤ 0 := f4
  obtain ⟨f5, hf⟩ := fc_un (show (20 : Nat) < 100 from by decide) hf
  have f5 : (-1) * v_iv (n_v vs 5) + (1 * w_el ws (w_ar ws (n_v vs 0) 2) (w_fi ws (n_v vs 0) 5 + 1).toNat + 0) ≤ 0 := f5
  obtain ⟨f6, hf⟩ := fc_un (show (20 : Nat) < 100 from by decide) hf
  have f6 : 1 * w_el ws (w_ar ws (n_v vs 0) 2) (w_fi ws (n_v vs 0) 5 + 1).toNat + 0 ≤ 47 := f6
  obtain ⟨f7, hf⟩ := fc_un (show (20 : Nat) < 100 from by decide) hf
  have f7 : (v_iv (n_v vs 4) + 1) ≤ w_ei ws (w_ar ws (n_v vs 0) 2) ((w_fi ws (n_v vs 0) 5 + 2)) := f7
  have cr_0_2 : ta (w_ar ws (n_v vs 0) 2) = some 152 := tv_rg (th_fd hD hth r0 (g := GG_150) rfl (k := 2) (t := (2, 0, 0, [152])) rfl rfl)
  have ad_6 : v_ad (n_v vs 6) = w_ar ws (n_v vs 0) 2 := congrArg v_ad f3
  rw [ad_6] at f0
  have h0 : v_iv (n_v vs 10) = w_ei ws (w_ar ws (n_v vs 0) 2) (v_iv (n_v vs 9)) := f0
  have g2 : v_iv (n_v vs 7) = w_fi ws (n_v vs 0) 5 := congrArg v_iv f2
  have cg0_F5_1 : v_iv (n_v vs 9) = w_fi ws (n_v vs 0) 5 + 1 → w_el ws (w_ar ws (n_v vs 0) 2) (v_iv (n_v vs 9)).toNat = w_el ws (w_ar ws (n_v vs 0) 2) (w_fi ws (n_v vs 0) 5 + 1).toNat := fun h => by rw [h]
  have br_0_2_F5_1_0 : w_ei ws (w_ar ws (n_v vs 0) 2) (w_fi ws (n_v vs 0) 5 + 1) = w_el ws (w_ar ws (n_v vs 0) 2) (w_fi ws (n_v vs 0) 5 + 1).toNat := rfl
  have br_0_2_9_0 : w_ei ws (w_ar ws (n_v vs 0) 2) (v_iv (n_v vs 9)) = w_el ws (w_ar ws (n_v vs 0) 2) (v_iv (n_v vs 9)).toNat := rfl
  have rf10 : tv_ok ta (0, 0, 47, []) (n_v vs 10) := tv_in t10 (by first | omega | grind) (by first | omega | grind)
  refine ⟨List.forall_mem_cons.mpr ⟨rf10, (fun _ h => (by cases h))⟩, [], trivial, ?_, (fun _ h => (by cases h))⟩
  rw [List.append_nil]
  exact (fun _ h => (by cases h))
def o_Mo_newEdge_at_g0_2 : or_T := (89, 26, [(0, (2, 0, 0, [150])), (1, (0, 0, 23, [])), (2, (0, 0, 23, [])), (3, (0, 0, 1, [])), (4, (0, 0, 7, [])), (5, (0, 0, 47, [])), (6, (2, 0, 0, [152])), (7, (0, 0, 66297, [])), (8, (0, 1, 1, [])), (9, (0, 1, 66298, [])), (10, (0, 0, 47, [])), (11, (0, 1, 1, [])), (12, (0, 1, 48, [])), (13, (0, 267, 267, [])), (14, (0, 267, 66564, [])), (15, (0, 267, 66611, [])), (16, (0, 315, 315, [])), (17, (0, 315, 66612, [])), (18, (0, 315, 66659, [])), (19, (0, 363, 363, [])), (20, (0, 363, 66660, [])), (21, (0, 363, 66707, [])), (22, (0, 1, 1, [])), (23, (0, 411, 411, [])), (24, (0, 411, 66708, [])), (25, (0, 411, 66755, []))], [(100, [6, 25, 3], []), (1, [25, 24, 5], []), (1, [24, 7, 23], []), (9, [7, 0], [5]), (9, [6, 0], [2]), (100, [6, 21, 22], []), (1, [21, 20, 5], []), (1, [20, 7, 19], []), (100, [6, 18, 2], []), (1, [18, 17, 5], []), (1, [17, 7, 16], []), (100, [6, 15, 1], []), (1, [15, 14, 5], []), (1, [14, 7, 13], []), (100, [6, 9, 12], []), (1, [12, 10, 11], []), (10, [10, 6, 9], []), (1, [9, 7, 8], []), (20, [5, 0], [30, 0, 1, 0, 0, -1, 3, 2005001]), (20, [5, 0], [30, 0, -1, 0, 0, 1, 3, 2005001]), (20, [0], [30, 47, 1, 3, 2005001]), (20, [4, 0], [50, 1, 1, 1005, 1002, 0, 6, 4, 2, 1, 0, 0, 1, 3, 1, 2, 4, 3, 2, 1, 5, 0, 2])], [], [], [(20, [4, 0], [50, 1, 1, 1005, 1002, 0, 6, 4, 2, 1, 0, 0, 1, 3, 1, 2, 4, 3, 2, 1, 5, 0, 2])], [], [(25, 5, 411, 66708), (25, 24, 0, 47), (25, 7, 411, 458), (24, 7, 411, 411), (21, 5, 363, 66660), (21, 20, 0, 47), (21, 7, 363, 410), (20, 7, 363, 363), (18, 5, 315, 66612), (18, 17, 0, 47), (18, 7, 315, 362), (17, 7, 315, 315), (15, 5, 267, 66564), (15, 14, 0, 47), (15, 7, 267, 314), (14, 7, 267, 267), (12, 10, 1, 1), (9, 7, 1, 1)])
theorem oo_Mo_newEdge_at_g0_2 {kA : Nat → ClassId} : or_ok kA GG o_Mo_newEdge_at_g0_2 := by
  intro A ta ws vs hD hth hl hk hds hf
  have hl : vs.length = 26 := hl
  have hk : ∀ q ∈ ([(0, (2, 0, 0, [150])), (1, (0, 0, 23, [])), (2, (0, 0, 23, [])), (3, (0, 0, 1, [])), (4, (0, 0, 7, [])), (5, (0, 0, 47, [])), (6, (2, 0, 0, [152])), (7, (0, 0, 66297, [])), (8, (0, 1, 1, [])), (9, (0, 1, 66298, [])), (10, (0, 0, 47, [])), (11, (0, 1, 1, [])), (12, (0, 1, 48, [])), (13, (0, 267, 267, [])), (14, (0, 267, 66564, [])), (15, (0, 267, 66611, [])), (16, (0, 315, 315, [])), (17, (0, 315, 66612, [])), (18, (0, 315, 66659, [])), (19, (0, 363, 363, [])), (20, (0, 363, 66660, [])), (21, (0, 363, 66707, [])), (22, (0, 1, 1, [])), (23, (0, 411, 411, [])), (24, (0, 411, 66708, [])), (25, (0, 411, 66755, []))] : List (Nat × tv_T)), tv_ok ta q.2 (n_v vs q.1) := hk
  obtain ⟨t0, hk⟩ := List.forall_mem_cons.mp hk
  have t0 : tv_ok ta (2, 0, 0, [150]) (n_v vs 0) := t0
  have r0 : ta (v_ad (n_v vs 0)) = some 150 := tv_rg t0
  obtain ⟨t1, hk⟩ := List.forall_mem_cons.mp hk
  have t1 : tv_ok ta (0, 0, 23, []) (n_v vs 1) := t1
  have k1 : 0 ≤ v_iv (n_v vs 1) ∧ v_iv (n_v vs 1) ≤ 23 := tv_rng t1
  obtain ⟨t2, hk⟩ := List.forall_mem_cons.mp hk
  have t2 : tv_ok ta (0, 0, 23, []) (n_v vs 2) := t2
  have k2 : 0 ≤ v_iv (n_v vs 2) ∧ v_iv (n_v vs 2) ≤ 23 := tv_rng t2
  obtain ⟨t3, hk⟩ := List.forall_mem_cons.mp hk
  have t3 : tv_ok ta (0, 0, 1, []) (n_v vs 3) := t3
  have k3 : 0 ≤ v_iv (n_v vs 3) ∧ v_iv (n_v vs 3) ≤ 1 := tv_rng t3
  obtain ⟨t4, hk⟩ := List.forall_mem_cons.mp hk
  have t4 : tv_ok ta (0, 0, 7, []) (n_v vs 4) := t4
  have k4 : 0 ≤ v_iv (n_v vs 4) ∧ v_iv (n_v vs 4) ≤ 7 := tv_rng t4
  obtain ⟨t5, hk⟩ := List.forall_mem_cons.mp hk
  have t5 : tv_ok ta (0, 0, 47, []) (n_v vs 5) := t5
  have k5 : 0 ≤ v_iv (n_v vs 5) ∧ v_iv (n_v vs 5) ≤ 47 := tv_rng t5
  obtain ⟨t6, hk⟩ := List.forall_mem_cons.mp hk
  have t6 : tv_ok ta (2, 0, 0, [152]) (n_v vs 6) := t6
  have r6 : ta (v_ad (n_v vs 6)) = some 152 := tv_rg t6
  obtain ⟨t7, hk⟩ := List.forall_mem_cons.mp hk
  have t7 : tv_ok ta (0, 0, 66297, []) (n_v vs 7) := t7
  have k7 : 0 ≤ v_iv (n_v vs 7) ∧ v_iv (n_v vs 7) ≤ 66297 := tv_rng t7
  obtain ⟨t8, hk⟩ := List.forall_mem_cons.mp hk
  have t8 : tv_ok ta (0, 1, 1, []) (n_v vs 8) := t8
  have k8 : 1 ≤ v_iv (n_v vs 8) ∧ v_iv (n_v vs 8) ≤ 1 := tv_rng t8
  obtain ⟨t9, hk⟩ := List.forall_mem_cons.mp hk
  have t9 : tv_ok ta (0, 1, 66298, []) (n_v vs 9) := t9
  have k9 : 1 ≤ v_iv (n_v vs 9) ∧ v_iv (n_v vs 9) ≤ 66298 := tv_rng t9
  obtain ⟨t10, hk⟩ := List.forall_mem_cons.mp hk
  have t10 : tv_ok ta (0, 0, 47, []) (n_v vs 10) := t10
  have k10 : 0 ≤ v_iv (n_v vs 10) ∧ v_iv (n_v vs 10) ≤ 47 := tv_rng t10
  obtain ⟨t11, hk⟩ := List.forall_mem_cons.mp hk
  have t11 : tv_ok ta (0, 1, 1, []) (n_v vs 11) := t11
  have k11 : 1 ≤ v_iv (n_v vs 11) ∧ v_iv (n_v vs 11) ≤ 1 := tv_rng t11
  obtain ⟨t12, hk⟩ := List.forall_mem_cons.mp hk
  have t12 : tv_ok ta (0, 1, 48, []) (n_v vs 12) := t12
  have k12 : 1 ≤ v_iv (n_v vs 12) ∧ v_iv (n_v vs 12) ≤ 48 := tv_rng t12
  obtain ⟨t13, hk⟩ := List.forall_mem_cons.mp hk
  have t13 : tv_ok ta (0, 267, 267, []) (n_v vs 13) := t13
  have k13 : 267 ≤ v_iv (n_v vs 13) ∧ v_iv (n_v vs 13) ≤ 267 := tv_rng t13
  obtain ⟨t14, hk⟩ := List.forall_mem_cons.mp hk
  have t14 : tv_ok ta (0, 267, 66564, []) (n_v vs 14) := t14
  have k14 : 267 ≤ v_iv (n_v vs 14) ∧ v_iv (n_v vs 14) ≤ 66564 := tv_rng t14
  obtain ⟨t15, hk⟩ := List.forall_mem_cons.mp hk
  have t15 : tv_ok ta (0, 267, 66611, []) (n_v vs 15) := t15
  have k15 : 267 ≤ v_iv (n_v vs 15) ∧ v_iv (n_v vs 15) ≤ 66611 := tv_rng t15
  obtain ⟨t16, hk⟩ := List.forall_mem_cons.mp hk
  have t16 : tv_ok ta (0, 315, 315, []) (n_v vs 16) := t16
  have k16 : 315 ≤ v_iv (n_v vs 16) ∧ v_iv (n_v vs 16) ≤ 315 := tv_rng t16
  obtain ⟨t17, hk⟩ := List.forall_mem_cons.mp hk
  have t17 : tv_ok ta (0, 315, 66612, []) (n_v vs 17) := t17
  have k17 : 315 ≤ v_iv (n_v vs 17) ∧ v_iv (n_v vs 17) ≤ 66612 := tv_rng t17
  obtain ⟨t18, hk⟩ := List.forall_mem_cons.mp hk
  have t18 : tv_ok ta (0, 315, 66659, []) (n_v vs 18) := t18
  have k18 : 315 ≤ v_iv (n_v vs 18) ∧ v_iv (n_v vs 18) ≤ 66659 := tv_rng t18
  obtain ⟨t19, hk⟩ := List.forall_mem_cons.mp hk
  have t19 : tv_ok ta (0, 363, 363, []) (n_v vs 19) := t19
  have k19 : 363 ≤ v_iv (n_v vs 19) ∧ v_iv (n_v vs 19) ≤ 363 := tv_rng t19
  obtain ⟨t20, hk⟩ := List.forall_mem_cons.mp hk
  have t20 : tv_ok ta (0, 363, 66660, []) (n_v vs 20) := t20
  have k20 : 363 ≤ v_iv (n_v vs 20) ∧ v_iv (n_v vs 20) ≤ 66660 := tv_rng t20
  obtain ⟨t21, hk⟩ := List.forall_mem_cons.mp hk
  have t21 : tv_ok ta (0, 363, 66707, []) (n_v vs 21) := t21
  have k21 : 363 ≤ v_iv (n_v vs 21) ∧ v_iv (n_v vs 21) ≤ 66707 := tv_rng t21
  obtain ⟨t22, hk⟩ := List.forall_mem_cons.mp hk
  have t22 : tv_ok ta (0, 1, 1, []) (n_v vs 22) := t22
  have k22 : 1 ≤ v_iv (n_v vs 22) ∧ v_iv (n_v vs 22) ≤ 1 := tv_rng t22
  obtain ⟨t23, hk⟩ := List.forall_mem_cons.mp hk
  have t23 : tv_ok ta (0, 411, 411, []) (n_v vs 23) := t23
  have k23 : 411 ≤ v_iv (n_v vs 23) ∧ v_iv (n_v vs 23) ≤ 411 := tv_rng t23
  obtain ⟨t24, hk⟩ := List.forall_mem_cons.mp hk
  have t24 : tv_ok ta (0, 411, 66708, []) (n_v vs 24) := t24
  have k24 : 411 ≤ v_iv (n_v vs 24) ∧ v_iv (n_v vs 24) ≤ 66708 := tv_rng t24
  obtain ⟨t25, hk⟩ := List.forall_mem_cons.mp hk
  have t25 : tv_ok ta (0, 411, 66755, []) (n_v vs 25) := t25
  have k25 : 411 ≤ v_iv (n_v vs 25) ∧ v_iv (n_v vs 25) ≤ 66755 := tv_rng t25
  have hds : ∀ q ∈ ([(25, 5, 411, 66708), (25, 24, 0, 47), (25, 7, 411, 458), (24, 7, 411, 411), (21, 5, 363, 66660), (21, 20, 0, 47), (21, 7, 363, 410), (20, 7, 363, 363), (18, 5, 315, 66612), (18, 17, 0, 47), (18, 7, 315, 362), (17, 7, 315, 315), (15, 5, 267, 66564), (15, 14, 0, 47), (15, 7, 267, 314), (14, 7, 267, 267), (12, 10, 1, 1), (9, 7, 1, 1)] : List of_T), n_iv vs q.2.1 + q.2.2.1 ≤ n_iv vs q.1 ∧ n_iv vs q.1 ≤ n_iv vs q.2.1 + q.2.2.2 := hds
  obtain ⟨d0, hds⟩ := List.forall_mem_cons.mp hds
  have d0 : v_iv (n_v vs 5) + 411 ≤ v_iv (n_v vs 25) ∧ v_iv (n_v vs 25) ≤ v_iv (n_v vs 5) + 66708 := d0
  obtain ⟨d1, hds⟩ := List.forall_mem_cons.mp hds
  have d1 : v_iv (n_v vs 24) + 0 ≤ v_iv (n_v vs 25) ∧ v_iv (n_v vs 25) ≤ v_iv (n_v vs 24) + 47 := d1
  obtain ⟨d2, hds⟩ := List.forall_mem_cons.mp hds
  have d2 : v_iv (n_v vs 7) + 411 ≤ v_iv (n_v vs 25) ∧ v_iv (n_v vs 25) ≤ v_iv (n_v vs 7) + 458 := d2
  obtain ⟨d3, hds⟩ := List.forall_mem_cons.mp hds
  have d3 : v_iv (n_v vs 7) + 411 ≤ v_iv (n_v vs 24) ∧ v_iv (n_v vs 24) ≤ v_iv (n_v vs 7) + 411 := d3
  obtain ⟨d4, hds⟩ := List.forall_mem_cons.mp hds
  have d4 : v_iv (n_v vs 5) + 363 ≤ v_iv (n_v vs 21) ∧ v_iv (n_v vs 21) ≤ v_iv (n_v vs 5) + 66660 := d4
  obtain ⟨d5, hds⟩ := List.forall_mem_cons.mp hds
  have d5 : v_iv (n_v vs 20) + 0 ≤ v_iv (n_v vs 21) ∧ v_iv (n_v vs 21) ≤ v_iv (n_v vs 20) + 47 := d5
  obtain ⟨d6, hds⟩ := List.forall_mem_cons.mp hds
  have d6 : v_iv (n_v vs 7) + 363 ≤ v_iv (n_v vs 21) ∧ v_iv (n_v vs 21) ≤ v_iv (n_v vs 7) + 410 := d6
  obtain ⟨d7, hds⟩ := List.forall_mem_cons.mp hds
  have d7 : v_iv (n_v vs 7) + 363 ≤ v_iv (n_v vs 20) ∧ v_iv (n_v vs 20) ≤ v_iv (n_v vs 7) + 363 := d7
  obtain ⟨d8, hds⟩ := List.forall_mem_cons.mp hds
  have d8 : v_iv (n_v vs 5) + 315 ≤ v_iv (n_v vs 18) ∧ v_iv (n_v vs 18) ≤ v_iv (n_v vs 5) + 66612 := d8
  obtain ⟨d9, hds⟩ := List.forall_mem_cons.mp hds
  have d9 : v_iv (n_v vs 17) + 0 ≤ v_iv (n_v vs 18) ∧ v_iv (n_v vs 18) ≤ v_iv (n_v vs 17) + 47 := d9
  obtain ⟨d10, hds⟩ := List.forall_mem_cons.mp hds
  have d10 : v_iv (n_v vs 7) + 315 ≤ v_iv (n_v vs 18) ∧ v_iv (n_v vs 18) ≤ v_iv (n_v vs 7) + 362 := d10
  obtain ⟨d11, hds⟩ := List.forall_mem_cons.mp hds
  have d11 : v_iv (n_v vs 7) + 315 ≤ v_iv (n_v vs 17) ∧ v_iv (n_v vs 17) ≤ v_iv (n_v vs 7) + 315 := d11
  obtain ⟨d12, hds⟩ := List.forall_mem_cons.mp hds
  have d12 : v_iv (n_v vs 5) + 267 ≤ v_iv (n_v vs 15) ∧ v_iv (n_v vs 15) ≤ v_iv (n_v vs 5) + 66564 := d12
  obtain ⟨d13, hds⟩ := List.forall_mem_cons.mp hds
  have d13 : v_iv (n_v vs 14) + 0 ≤ v_iv (n_v vs 15) ∧ v_iv (n_v vs 15) ≤ v_iv (n_v vs 14) + 47 := d13
  obtain ⟨d14, hds⟩ := List.forall_mem_cons.mp hds
  have d14 : v_iv (n_v vs 7) + 267 ≤ v_iv (n_v vs 15) ∧ v_iv (n_v vs 15) ≤ v_iv (n_v vs 7) + 314 := d14
  obtain ⟨d15, hds⟩ := List.forall_mem_cons.mp hds
  have d15 : v_iv (n_v vs 7) + 267 ≤ v_iv (n_v vs 14) ∧ v_iv (n_v vs 14) ≤ v_iv (n_v vs 7) + 267 := d15
  obtain ⟨d16, hds⟩ := List.forall_mem_cons.mp hds
  have d16 : v_iv (n_v vs 10) + 1 ≤ v_iv (n_v vs 12) ∧ v_iv (n_v vs 12) ≤ v_iv (n_v vs 10) + 1 := d16
  obtain ⟨d17, hds⟩ := List.forall_mem_cons.mp hds
  have d17 : v_iv (n_v vs 7) + 1 ≤ v_iv (n_v vs 9) ∧ v_iv (n_v vs 9) ≤ v_iv (n_v vs 7) + 1 := d17
  have hf : fc_ok [(100, [6, 25, 3], []), (1, [25, 24, 5], []), (1, [24, 7, 23], []), (9, [7, 0], [5]), (9, [6, 0], [2]), (100, [6, 21, 22], []), (1, [21, 20, 5], []), (1, [20, 7, 19], []), (100, [6, 18, 2], []), (1, [18, 17, 5], []), (1, [17, 7, 16], []), (100, [6, 15, 1], []), (1, [15, 14, 5], []), (1, [14, 7, 13], []), (100, [6, 9, 12], []), (1, [12, 10, 11], []), (10, [10, 6, 9], []), (1, [9, 7, 8], []), (20, [5, 0], [30, 0, 1, 0, 0, -1, 3, 2005001]), (20, [5, 0], [30, 0, -1, 0, 0, 1, 3, 2005001]), (20, [0], [30, 47, 1, 3, 2005001]), (20, [4, 0], [50, 1, 1, 1005, 1002, 0, 6, 4, 2, 1, 0, 0, 1, 3, 1, 2, 4, 3, 2, 1, 5, 0, 2])] ta ws vs := hf
  obtain ⟨ta1, w1, le1, ⟨_, s1⟩, hf⟩ := fc_us (show ¬ (100 : Nat) < 100 from by decide) hf
  have s1 : (∀ b j, w_el ws b j = if b = v_ad (n_v vs 6) ∧ j = (v_iv (n_v vs 25)).toNat then v_iv (n_v vs 3) else w_el w1 b j) ∧ ∀ b k, w_fd ws b k = w_fd w1 b k := s1
  obtain ⟨f1, hf⟩ := fc_un (show (1 : Nat) < 100 from by decide) hf
  have f1 : v_iv (n_v vs 25) = v_iv (n_v vs 24) + v_iv (n_v vs 5) := f1
  obtain ⟨f2, hf⟩ := fc_un (show (1 : Nat) < 100 from by decide) hf
  have f2 : v_iv (n_v vs 24) = v_iv (n_v vs 7) + v_iv (n_v vs 23) := f2
  obtain ⟨f3, hf⟩ := fc_un (show (9 : Nat) < 100 from by decide) hf
  have f3 : n_v vs 7 = w_fd w1 (v_ad (n_v vs 0)) 5 := f3
  obtain ⟨f4, hf⟩ := fc_un (show (9 : Nat) < 100 from by decide) hf
  have f4 : n_v vs 6 = w_fd w1 (v_ad (n_v vs 0)) 2 := f4
  obtain ⟨ta2, w2, le2, ⟨_, s2⟩, hf⟩ := fc_us (show ¬ (100 : Nat) < 100 from by decide) hf
  have s2 : (∀ b j, w_el w1 b j = if b = v_ad (n_v vs 6) ∧ j = (v_iv (n_v vs 21)).toNat then v_iv (n_v vs 22) else w_el w2 b j) ∧ ∀ b k, w_fd w1 b k = w_fd w2 b k := s2
  obtain ⟨f6, hf⟩ := fc_un (show (1 : Nat) < 100 from by decide) hf
  have f6 : v_iv (n_v vs 21) = v_iv (n_v vs 20) + v_iv (n_v vs 5) := f6
  obtain ⟨f7, hf⟩ := fc_un (show (1 : Nat) < 100 from by decide) hf
  have f7 : v_iv (n_v vs 20) = v_iv (n_v vs 7) + v_iv (n_v vs 19) := f7
  obtain ⟨ta3, w3, le3, ⟨_, s3⟩, hf⟩ := fc_us (show ¬ (100 : Nat) < 100 from by decide) hf
  have s3 : (∀ b j, w_el w2 b j = if b = v_ad (n_v vs 6) ∧ j = (v_iv (n_v vs 18)).toNat then v_iv (n_v vs 2) else w_el w3 b j) ∧ ∀ b k, w_fd w2 b k = w_fd w3 b k := s3
  obtain ⟨f9, hf⟩ := fc_un (show (1 : Nat) < 100 from by decide) hf
  have f9 : v_iv (n_v vs 18) = v_iv (n_v vs 17) + v_iv (n_v vs 5) := f9
  obtain ⟨f10, hf⟩ := fc_un (show (1 : Nat) < 100 from by decide) hf
  have f10 : v_iv (n_v vs 17) = v_iv (n_v vs 7) + v_iv (n_v vs 16) := f10
  obtain ⟨ta4, w4, le4, ⟨_, s4⟩, hf⟩ := fc_us (show ¬ (100 : Nat) < 100 from by decide) hf
  have s4 : (∀ b j, w_el w3 b j = if b = v_ad (n_v vs 6) ∧ j = (v_iv (n_v vs 15)).toNat then v_iv (n_v vs 1) else w_el w4 b j) ∧ ∀ b k, w_fd w3 b k = w_fd w4 b k := s4
  obtain ⟨f12, hf⟩ := fc_un (show (1 : Nat) < 100 from by decide) hf
  have f12 : v_iv (n_v vs 15) = v_iv (n_v vs 14) + v_iv (n_v vs 5) := f12
  obtain ⟨f13, hf⟩ := fc_un (show (1 : Nat) < 100 from by decide) hf
  have f13 : v_iv (n_v vs 14) = v_iv (n_v vs 7) + v_iv (n_v vs 13) := f13
  obtain ⟨ta5, w5, le5, ⟨_, s5⟩, hf⟩ := fc_us (show ¬ (100 : Nat) < 100 from by decide) hf
  have s5 : (∀ b j, w_el w4 b j = if b = v_ad (n_v vs 6) ∧ j = (v_iv (n_v vs 9)).toNat then v_iv (n_v vs 12) else w_el w5 b j) ∧ ∀ b k, w_fd w4 b k = w_fd w5 b k := s5
  obtain ⟨f15, hf⟩ := fc_un (show (1 : Nat) < 100 from by decide) hf
  have f15 : v_iv (n_v vs 12) = v_iv (n_v vs 10) + v_iv (n_v vs 11) := f15
  obtain ⟨f16, hf⟩ := fc_un (show (10 : Nat) < 100 from by decide) hf
  have f16 : v_iv (n_v vs 10) = w_el w5 (v_ad (n_v vs 6)) (v_iv (n_v vs 9)).toNat := f16
  obtain ⟨f17, hf⟩ := fc_un (show (1 : Nat) < 100 from by decide) hf
  have f17 : v_iv (n_v vs 9) = v_iv (n_v vs 7) + v_iv (n_v vs 8) := f17
  obtain ⟨f18, hf⟩ := fc_un (show (20 : Nat) < 100 from by decide) hf
  have f18 : 1 * v_iv (n_v vs 5) + ((-1) * w_el w5 (w_ar w5 (n_v vs 0) 2) (w_fi w5 (n_v vs 0) 5 + 1).toNat + 0) ≤ 0 := f18
  obtain ⟨f19, hf⟩ := fc_un (show (20 : Nat) < 100 from by decide) hf
  have f19 : (-1) * v_iv (n_v vs 5) + (1 * w_el w5 (w_ar w5 (n_v vs 0) 2) (w_fi w5 (n_v vs 0) 5 + 1).toNat + 0) ≤ 0 := f19
  obtain ⟨f20, hf⟩ := fc_un (show (20 : Nat) < 100 from by decide) hf
  have f20 : 1 * w_el w5 (w_ar w5 (n_v vs 0) 2) (w_fi w5 (n_v vs 0) 5 + 1).toNat + 0 ≤ 47 := f20
  obtain ⟨f21, hf⟩ := fc_un (show (20 : Nat) < 100 from by decide) hf
  have f21 : (v_iv (n_v vs 4) + 1) ≤ w_ei w5 (w_ar w5 (n_v vs 0) 2) ((w_fi w5 (n_v vs 0) 5 + 2)) := f21
  have ar_0_2_1 : w_ar w1 (n_v vs 0) 2 = w_ar ws (n_v vs 0) 2 := by show v_ad (w_fd w1 _ _) = v_ad (w_fd ws _ _); rw [s1.2]
  have ar_0_2_2 : w_ar w2 (n_v vs 0) 2 = w_ar ws (n_v vs 0) 2 := by rw [← ar_0_2_1]; show v_ad (w_fd w2 _ _) = v_ad (w_fd w1 _ _); rw [s2.2]
  have ar_0_2_3 : w_ar w3 (n_v vs 0) 2 = w_ar ws (n_v vs 0) 2 := by rw [← ar_0_2_2]; show v_ad (w_fd w3 _ _) = v_ad (w_fd w2 _ _); rw [s3.2]
  have ar_0_2_4 : w_ar w4 (n_v vs 0) 2 = w_ar ws (n_v vs 0) 2 := by rw [← ar_0_2_3]; show v_ad (w_fd w4 _ _) = v_ad (w_fd w3 _ _); rw [s4.2]
  have ar_0_2_5 : w_ar w5 (n_v vs 0) 2 = w_ar ws (n_v vs 0) 2 := by rw [← ar_0_2_4]; show v_ad (w_fd w5 _ _) = v_ad (w_fd w4 _ _); rw [s5.2]
  have cr_0_2 : ta (w_ar ws (n_v vs 0) 2) = some 152 := tv_rg (th_fd hD hth r0 (g := GG_150) rfl (k := 2) (t := (2, 0, 0, [152])) rfl rfl)
  have fi_0_5_1 : w_fi w1 (n_v vs 0) 5 = w_fi ws (n_v vs 0) 5 := by show v_iv (w_fd w1 _ _) = v_iv (w_fd ws _ _); rw [s1.2]
  have fi_0_5_2 : w_fi w2 (n_v vs 0) 5 = w_fi ws (n_v vs 0) 5 := by rw [← fi_0_5_1]; show v_iv (w_fd w2 _ _) = v_iv (w_fd w1 _ _); rw [s2.2]
  have fi_0_5_3 : w_fi w3 (n_v vs 0) 5 = w_fi ws (n_v vs 0) 5 := by rw [← fi_0_5_2]; show v_iv (w_fd w3 _ _) = v_iv (w_fd w2 _ _); rw [s3.2]
  have fi_0_5_4 : w_fi w4 (n_v vs 0) 5 = w_fi ws (n_v vs 0) 5 := by rw [← fi_0_5_3]; show v_iv (w_fd w4 _ _) = v_iv (w_fd w3 _ _); rw [s4.2]
  have fi_0_5_5 : w_fi w5 (n_v vs 0) 5 = w_fi ws (n_v vs 0) 5 := by rw [← fi_0_5_4]; show v_iv (w_fd w5 _ _) = v_iv (w_fd w4 _ _); rw [s5.2]
  have ad_6 : v_ad (n_v vs 6) = w_ar ws (n_v vs 0) 2 := (congrArg v_ad f4).trans ar_0_2_1
  have g3 : v_iv (n_v vs 7) = w_fi w1 (n_v vs 0) 5 := congrArg v_iv f3
  rw [ad_6] at f16
  have h16 : v_iv (n_v vs 10) = w_ei w5 (w_ar ws (n_v vs 0) 2) (v_iv (n_v vs 9)) := f16
  rw [ar_0_2_5] at f18
  rw [fi_0_5_5] at f18
  rw [ar_0_2_5] at f19
  rw [fi_0_5_5] at f19
  rw [ar_0_2_5] at f20
  rw [fi_0_5_5] at f20
  rw [ar_0_2_5] at f21
  have cg16_F5_1 : v_iv (n_v vs 9) = w_fi ws (n_v vs 0) 5 + 1 → w_el w5 (w_ar ws (n_v vs 0) 2) (v_iv (n_v vs 9)).toNat = w_el w5 (w_ar ws (n_v vs 0) 2) (w_fi ws (n_v vs 0) 5 + 1).toNat := fun h => by rw [h]
  have fe_0_5_1 : w_fi ws (n_v vs 0) 5 = w_fi w1 (n_v vs 0) 5 := congrArg v_iv (s1.2 _ _)
  first | (have ee_0_2_F5_1_1 : w_el ws (w_ar ws (n_v vs 0) 2) (w_fi ws (n_v vs 0) 5 + 1).toNat = w_el w1 (w_ar ws (n_v vs 0) 2) (w_fi ws (n_v vs 0) 5 + 1).toNat := by rw [s1.1, if_neg (fun e => absurd e.2 (by omega))]) | have ee_0_2_F5_1_1 : ((w_fi ws (n_v vs 0) 5 + 1).toNat = (v_iv (n_v vs 25)).toNat → w_el ws (w_ar ws (n_v vs 0) 2) (w_fi ws (n_v vs 0) 5 + 1).toNat = v_iv (n_v vs 3)) ∧ ((w_fi ws (n_v vs 0) 5 + 1).toNat ≠ (v_iv (n_v vs 25)).toNat → w_el ws (w_ar ws (n_v vs 0) 2) (w_fi ws (n_v vs 0) 5 + 1).toNat = w_el w1 (w_ar ws (n_v vs 0) 2) (w_fi ws (n_v vs 0) 5 + 1).toNat) := ⟨fun h => by rw [s1.1, if_pos ⟨ad_6.symm, h⟩], fun h => by rw [s1.1, if_neg (fun e => h e.2)]⟩
  have ee_0_2_9_1 : ((v_iv (n_v vs 9)).toNat = (v_iv (n_v vs 25)).toNat → w_el ws (w_ar ws (n_v vs 0) 2) (v_iv (n_v vs 9)).toNat = v_iv (n_v vs 3)) ∧ ((v_iv (n_v vs 9)).toNat ≠ (v_iv (n_v vs 25)).toNat → w_el ws (w_ar ws (n_v vs 0) 2) (v_iv (n_v vs 9)).toNat = w_el w1 (w_ar ws (n_v vs 0) 2) (v_iv (n_v vs 9)).toNat) := ⟨fun h => by rw [s1.1, if_pos ⟨ad_6.symm, h⟩], fun h => by rw [s1.1, if_neg (fun e => h e.2)]⟩
  have fe_0_5_2 : w_fi w1 (n_v vs 0) 5 = w_fi w2 (n_v vs 0) 5 := congrArg v_iv (s2.2 _ _)
  first | (have ee_0_2_F5_1_2 : w_el w1 (w_ar ws (n_v vs 0) 2) (w_fi ws (n_v vs 0) 5 + 1).toNat = w_el w2 (w_ar ws (n_v vs 0) 2) (w_fi ws (n_v vs 0) 5 + 1).toNat := by rw [s2.1, if_neg (fun e => absurd e.2 (by omega))]) | have ee_0_2_F5_1_2 : ((w_fi ws (n_v vs 0) 5 + 1).toNat = (v_iv (n_v vs 21)).toNat → w_el w1 (w_ar ws (n_v vs 0) 2) (w_fi ws (n_v vs 0) 5 + 1).toNat = v_iv (n_v vs 22)) ∧ ((w_fi ws (n_v vs 0) 5 + 1).toNat ≠ (v_iv (n_v vs 21)).toNat → w_el w1 (w_ar ws (n_v vs 0) 2) (w_fi ws (n_v vs 0) 5 + 1).toNat = w_el w2 (w_ar ws (n_v vs 0) 2) (w_fi ws (n_v vs 0) 5 + 1).toNat) := ⟨fun h => by rw [s2.1, if_pos ⟨ad_6.symm, h⟩], fun h => by rw [s2.1, if_neg (fun e => h e.2)]⟩
  have ee_0_2_9_2 : ((v_iv (n_v vs 9)).toNat = (v_iv (n_v vs 21)).toNat → w_el w1 (w_ar ws (n_v vs 0) 2) (v_iv (n_v vs 9)).toNat = v_iv (n_v vs 22)) ∧ ((v_iv (n_v vs 9)).toNat ≠ (v_iv (n_v vs 21)).toNat → w_el w1 (w_ar ws (n_v vs 0) 2) (v_iv (n_v vs 9)).toNat = w_el w2 (w_ar ws (n_v vs 0) 2) (v_iv (n_v vs 9)).toNat) := ⟨fun h => by rw [s2.1, if_pos ⟨ad_6.symm, h⟩], fun h => by rw [s2.1, if_neg (fun e => h e.2)]⟩
  have fe_0_5_3 : w_fi w2 (n_v vs 0) 5 = w_fi w3 (n_v vs 0) 5 := congrArg v_iv (s3.2 _ _)
  first | (have ee_0_2_F5_1_3 : w_el w2 (w_ar ws (n_v vs 0) 2) (w_fi ws (n_v vs 0) 5 + 1).toNat = w_el w3 (w_ar ws (n_v vs 0) 2) (w_fi ws (n_v vs 0) 5 + 1).toNat := by rw [s3.1, if_neg (fun e => absurd e.2 (by omega))]) | have ee_0_2_F5_1_3 : ((w_fi ws (n_v vs 0) 5 + 1).toNat = (v_iv (n_v vs 18)).toNat → w_el w2 (w_ar ws (n_v vs 0) 2) (w_fi ws (n_v vs 0) 5 + 1).toNat = v_iv (n_v vs 2)) ∧ ((w_fi ws (n_v vs 0) 5 + 1).toNat ≠ (v_iv (n_v vs 18)).toNat → w_el w2 (w_ar ws (n_v vs 0) 2) (w_fi ws (n_v vs 0) 5 + 1).toNat = w_el w3 (w_ar ws (n_v vs 0) 2) (w_fi ws (n_v vs 0) 5 + 1).toNat) := ⟨fun h => by rw [s3.1, if_pos ⟨ad_6.symm, h⟩], fun h => by rw [s3.1, if_neg (fun e => h e.2)]⟩
  have ee_0_2_9_3 : ((v_iv (n_v vs 9)).toNat = (v_iv (n_v vs 18)).toNat → w_el w2 (w_ar ws (n_v vs 0) 2) (v_iv (n_v vs 9)).toNat = v_iv (n_v vs 2)) ∧ ((v_iv (n_v vs 9)).toNat ≠ (v_iv (n_v vs 18)).toNat → w_el w2 (w_ar ws (n_v vs 0) 2) (v_iv (n_v vs 9)).toNat = w_el w3 (w_ar ws (n_v vs 0) 2) (v_iv (n_v vs 9)).toNat) := ⟨fun h => by rw [s3.1, if_pos ⟨ad_6.symm, h⟩], fun h => by rw [s3.1, if_neg (fun e => h e.2)]⟩
  have fe_0_5_4 : w_fi w3 (n_v vs 0) 5 = w_fi w4 (n_v vs 0) 5 := congrArg v_iv (s4.2 _ _)
  first | (have ee_0_2_F5_1_4 : w_el w3 (w_ar ws (n_v vs 0) 2) (w_fi ws (n_v vs 0) 5 + 1).toNat = w_el w4 (w_ar ws (n_v vs 0) 2) (w_fi ws (n_v vs 0) 5 + 1).toNat := by rw [s4.1, if_neg (fun e => absurd e.2 (by omega))]) | have ee_0_2_F5_1_4 : ((w_fi ws (n_v vs 0) 5 + 1).toNat = (v_iv (n_v vs 15)).toNat → w_el w3 (w_ar ws (n_v vs 0) 2) (w_fi ws (n_v vs 0) 5 + 1).toNat = v_iv (n_v vs 1)) ∧ ((w_fi ws (n_v vs 0) 5 + 1).toNat ≠ (v_iv (n_v vs 15)).toNat → w_el w3 (w_ar ws (n_v vs 0) 2) (w_fi ws (n_v vs 0) 5 + 1).toNat = w_el w4 (w_ar ws (n_v vs 0) 2) (w_fi ws (n_v vs 0) 5 + 1).toNat) := ⟨fun h => by rw [s4.1, if_pos ⟨ad_6.symm, h⟩], fun h => by rw [s4.1, if_neg (fun e => h e.2)]⟩
  have ee_0_2_9_4 : ((v_iv (n_v vs 9)).toNat = (v_iv (n_v vs 15)).toNat → w_el w3 (w_ar ws (n_v vs 0) 2) (v_iv (n_v vs 9)).toNat = v_iv (n_v vs 1)) ∧ ((v_iv (n_v vs 9)).toNat ≠ (v_iv (n_v vs 15)).toNat → w_el w3 (w_ar ws (n_v vs 0) 2) (v_iv (n_v vs 9)).toNat = w_el w4 (w_ar ws (n_v vs 0) 2) (v_iv (n_v vs 9)).toNat) := ⟨fun h => by rw [s4.1, if_pos ⟨ad_6.symm, h⟩], fun h => by rw [s4.1, if_neg (fun e => h e.2)]⟩
  have fe_0_5_5 : w_fi w4 (n_v vs 0) 5 = w_fi w5 (n_v vs 0) 5 := congrArg v_iv (s5.2 _ _)
  first | (have ee_0_2_F5_1_5 : w_el w4 (w_ar ws (n_v vs 0) 2) (w_fi ws (n_v vs 0) 5 + 1).toNat = w_el w5 (w_ar ws (n_v vs 0) 2) (w_fi ws (n_v vs 0) 5 + 1).toNat := by rw [s5.1, if_neg (fun e => absurd e.2 (by omega))]) | have ee_0_2_F5_1_5 : ((w_fi ws (n_v vs 0) 5 + 1).toNat = (v_iv (n_v vs 9)).toNat → w_el w4 (w_ar ws (n_v vs 0) 2) (w_fi ws (n_v vs 0) 5 + 1).toNat = v_iv (n_v vs 12)) ∧ ((w_fi ws (n_v vs 0) 5 + 1).toNat ≠ (v_iv (n_v vs 9)).toNat → w_el w4 (w_ar ws (n_v vs 0) 2) (w_fi ws (n_v vs 0) 5 + 1).toNat = w_el w5 (w_ar ws (n_v vs 0) 2) (w_fi ws (n_v vs 0) 5 + 1).toNat) := ⟨fun h => by rw [s5.1, if_pos ⟨ad_6.symm, h⟩], fun h => by rw [s5.1, if_neg (fun e => h e.2)]⟩
  have ee_0_2_9_5 : w_el w4 (w_ar ws (n_v vs 0) 2) (v_iv (n_v vs 9)).toNat = v_iv (n_v vs 12) := by rw [s5.1, if_pos ⟨ad_6.symm, rfl⟩]
  have br_0_2_F5_1_0 : w_ei ws (w_ar ws (n_v vs 0) 2) (w_fi ws (n_v vs 0) 5 + 1) = w_el ws (w_ar ws (n_v vs 0) 2) (w_fi ws (n_v vs 0) 5 + 1).toNat := rfl
  have br_0_2_F5_1_1 : w_ei w1 (w_ar ws (n_v vs 0) 2) (w_fi ws (n_v vs 0) 5 + 1) = w_el w1 (w_ar ws (n_v vs 0) 2) (w_fi ws (n_v vs 0) 5 + 1).toNat := rfl
  have br_0_2_F5_1_2 : w_ei w2 (w_ar ws (n_v vs 0) 2) (w_fi ws (n_v vs 0) 5 + 1) = w_el w2 (w_ar ws (n_v vs 0) 2) (w_fi ws (n_v vs 0) 5 + 1).toNat := rfl
  have br_0_2_F5_1_3 : w_ei w3 (w_ar ws (n_v vs 0) 2) (w_fi ws (n_v vs 0) 5 + 1) = w_el w3 (w_ar ws (n_v vs 0) 2) (w_fi ws (n_v vs 0) 5 + 1).toNat := rfl
  have br_0_2_F5_1_4 : w_ei w4 (w_ar ws (n_v vs 0) 2) (w_fi ws (n_v vs 0) 5 + 1) = w_el w4 (w_ar ws (n_v vs 0) 2) (w_fi ws (n_v vs 0) 5 + 1).toNat := rfl
  have br_0_2_F5_1_5 : w_ei w5 (w_ar ws (n_v vs 0) 2) (w_fi ws (n_v vs 0) 5 + 1) = w_el w5 (w_ar ws (n_v vs 0) 2) (w_fi ws (n_v vs 0) 5 + 1).toNat := rfl
  have br_0_2_9_0 : w_ei ws (w_ar ws (n_v vs 0) 2) (v_iv (n_v vs 9)) = w_el ws (w_ar ws (n_v vs 0) 2) (v_iv (n_v vs 9)).toNat := rfl
  have br_0_2_9_1 : w_ei w1 (w_ar ws (n_v vs 0) 2) (v_iv (n_v vs 9)) = w_el w1 (w_ar ws (n_v vs 0) 2) (v_iv (n_v vs 9)).toNat := rfl
  have br_0_2_9_2 : w_ei w2 (w_ar ws (n_v vs 0) 2) (v_iv (n_v vs 9)) = w_el w2 (w_ar ws (n_v vs 0) 2) (v_iv (n_v vs 9)).toNat := rfl
  have br_0_2_9_3 : w_ei w3 (w_ar ws (n_v vs 0) 2) (v_iv (n_v vs 9)) = w_el w3 (w_ar ws (n_v vs 0) 2) (v_iv (n_v vs 9)).toNat := rfl
  have br_0_2_9_4 : w_ei w4 (w_ar ws (n_v vs 0) 2) (v_iv (n_v vs 9)) = w_el w4 (w_ar ws (n_v vs 0) 2) (v_iv (n_v vs 9)).toNat := rfl
  have br_0_2_9_5 : w_ei w5 (w_ar ws (n_v vs 0) 2) (v_iv (n_v vs 9)) = w_el w5 (w_ar ws (n_v vs 0) 2) (v_iv (n_v vs 9)).toNat := rfl
  have hE_0_2_1 : ∀ j : Int, 0 ≤ j → (j = v_iv (n_v vs 25) → w_ei ws (w_ar ws (n_v vs 0) 2) j = v_iv (n_v vs 3)) ∧ (j ≠ v_iv (n_v vs 25) → w_ei ws (w_ar ws (n_v vs 0) 2) j = w_ei w1 (w_ar ws (n_v vs 0) 2) j) := fun j hj => ⟨fun h => by unfold w_ei; rw [s1.1, if_pos ⟨ad_6.symm, by rw [h]⟩], fun h => by unfold w_ei; rw [s1.1, if_neg (fun e => h (by have := e.2; omega))]⟩
  have hE_0_2_2 : ∀ j : Int, 0 ≤ j → (j = v_iv (n_v vs 21) → w_ei w1 (w_ar ws (n_v vs 0) 2) j = v_iv (n_v vs 22)) ∧ (j ≠ v_iv (n_v vs 21) → w_ei w1 (w_ar ws (n_v vs 0) 2) j = w_ei w2 (w_ar ws (n_v vs 0) 2) j) := fun j hj => ⟨fun h => by unfold w_ei; rw [s2.1, if_pos ⟨ad_6.symm, by rw [h]⟩], fun h => by unfold w_ei; rw [s2.1, if_neg (fun e => h (by have := e.2; omega))]⟩
  have hE_0_2_3 : ∀ j : Int, 0 ≤ j → (j = v_iv (n_v vs 18) → w_ei w2 (w_ar ws (n_v vs 0) 2) j = v_iv (n_v vs 2)) ∧ (j ≠ v_iv (n_v vs 18) → w_ei w2 (w_ar ws (n_v vs 0) 2) j = w_ei w3 (w_ar ws (n_v vs 0) 2) j) := fun j hj => ⟨fun h => by unfold w_ei; rw [s3.1, if_pos ⟨ad_6.symm, by rw [h]⟩], fun h => by unfold w_ei; rw [s3.1, if_neg (fun e => h (by have := e.2; omega))]⟩
  have hE_0_2_4 : ∀ j : Int, 0 ≤ j → (j = v_iv (n_v vs 15) → w_ei w3 (w_ar ws (n_v vs 0) 2) j = v_iv (n_v vs 1)) ∧ (j ≠ v_iv (n_v vs 15) → w_ei w3 (w_ar ws (n_v vs 0) 2) j = w_ei w4 (w_ar ws (n_v vs 0) 2) j) := fun j hj => ⟨fun h => by unfold w_ei; rw [s4.1, if_pos ⟨ad_6.symm, by rw [h]⟩], fun h => by unfold w_ei; rw [s4.1, if_neg (fun e => h (by have := e.2; omega))]⟩
  have hE_0_2_5 : ∀ j : Int, 0 ≤ j → (j = v_iv (n_v vs 9) → w_ei w4 (w_ar ws (n_v vs 0) 2) j = v_iv (n_v vs 12)) ∧ (j ≠ v_iv (n_v vs 9) → w_ei w4 (w_ar ws (n_v vs 0) 2) j = w_ei w5 (w_ar ws (n_v vs 0) 2) j) := fun j hj => ⟨fun h => by unfold w_ei; rw [s5.1, if_pos ⟨ad_6.symm, by rw [h]⟩], fun h => by unfold w_ei; rw [s5.1, if_neg (fun e => h (by have := e.2; omega))]⟩
  first | have hJ0 : w_ei w5 (w_ar ws (n_v vs 0) 2) ((w_fi w5 (n_v vs 0) 5 + 2)) = w_ei w5 (w_ar ws (n_v vs 0) 2) ((w_fi ws (n_v vs 0) 5 + 2)) := congrArg _ (show ((w_fi w5 (n_v vs 0) 5 + 2) : Int) = (w_fi ws (n_v vs 0) 5 + 2) from by omega) | skip
  first | have hI1 := (hE_0_2_1 ((w_fi ws (n_v vs 0) 5 + 2)) (by omega)).2 (by omega) | have hI1 := (hE_0_2_1 ((w_fi ws (n_v vs 0) 5 + 2)) (by omega)).1 (by omega) | skip
  first | have hI2 := (hE_0_2_2 ((w_fi ws (n_v vs 0) 5 + 2)) (by omega)).2 (by omega) | have hI2 := (hE_0_2_2 ((w_fi ws (n_v vs 0) 5 + 2)) (by omega)).1 (by omega) | skip
  first | have hI3 := (hE_0_2_3 ((w_fi ws (n_v vs 0) 5 + 2)) (by omega)).2 (by omega) | have hI3 := (hE_0_2_3 ((w_fi ws (n_v vs 0) 5 + 2)) (by omega)).1 (by omega) | skip
  first | have hI4 := (hE_0_2_4 ((w_fi ws (n_v vs 0) 5 + 2)) (by omega)).2 (by omega) | have hI4 := (hE_0_2_4 ((w_fi ws (n_v vs 0) 5 + 2)) (by omega)).1 (by omega) | skip
  first | have hI5 := (hE_0_2_5 ((w_fi ws (n_v vs 0) 5 + 2)) (by omega)).2 (by omega) | have hI5 := (hE_0_2_5 ((w_fi ws (n_v vs 0) 5 + 2)) (by omega)).1 (by omega) | skip
  have nf0 : fc_1 (20, [4, 0], [50, 1, 1, 1005, 1002, 0, 6, 4, 2, 1, 0, 0, 1, 3, 1, 2, 4, 3, 2, 1, 5, 0, 2]) ws (vs) := by
    refine ⟨fun n hn => ?_, ?_⟩
    · have hn : n ∈ [4, 0] := hn
      rw [hl]
      simp only [List.mem_cons, List.not_mem_nil, or_false] at hn
      show n < 26; omega
    · show (v_iv (n_v vs 4) + 1) ≤ w_ei ws (w_ar ws (n_v vs 0) 2) ((w_fi ws (n_v vs 0) 5 + 2))
      first | omega | grind
  refine ⟨(fun _ h => (by cases h)), [], trivial, ?_, (fun _ h => (by cases h))⟩
  rw [List.append_nil]
  exact List.forall_mem_cons.mpr ⟨⟨show (20 : Nat) < 100 from by decide, nf0⟩, (fun _ h => (by cases h))⟩
def n_Mo_newEdge_at_g0_an : List an_T := []
def t_Mo_newEdge_at_g0_ct : ct_L := [(1, 401, e_Mo_edges)]
set_option maxRecDepth 100000 in
theorem c_Mo_newEdge_at_g0 {l : Launch} {D : va_G} {kA : Nat → ClassId} (h_Mo_edges : ct_ok l D kA GG y_Mo_edges z_Mo_edges e_Mo_edges) : ct_ok l D kA GG y_Mo_newEdge_at_g0 z_Mo_newEdge_at_g0 e_Mo_newEdge_at_g0 := chk_all_ok (FT := [(16, 13, 2), (391, 13, 5)]) (PT := []) (CT := t_Mo_newEdge_at_g0_ct) (KT := []) (NT := []) (AN := n_Mo_newEdge_at_g0_an) (OT := [o_Mo_newEdge_at_g0_0, o_Mo_newEdge_at_g0_1, o_Mo_newEdge_at_g0_2]) 0 220 (List.forall_mem_cons.mpr ⟨oo_Mo_newEdge_at_g0_0, List.forall_mem_cons.mpr ⟨oo_Mo_newEdge_at_g0_1, List.forall_mem_cons.mpr ⟨oo_Mo_newEdge_at_g0_2, List.forall_mem_nil _⟩⟩⟩) (by decide +kernel) ⟨List.forall_mem_cons.mpr ⟨gf_Mo_16, List.forall_mem_cons.mpr ⟨gf_Mo_391, List.forall_mem_nil _⟩⟩, List.forall_mem_nil _, List.forall_mem_cons.mpr ⟨cl_virtual (y := y_Mo_edges) (ci := 13) rfl rfl ⟨_, _, rfl⟩ (by decide +kernel) h_Mo_edges wm_3037 wm_9 wm_3034 wm_3036 wv_13_6 ⟨by decide, by decide, by decide +kernel⟩ (by decide), List.forall_mem_nil _⟩, List.forall_mem_nil _, List.forall_mem_nil _, GG_pl⟩ (by decide +kernel)
def o_Mo_styleOpen_at_f0_0 : or_T := (6, 4, [(0, (2, 0, 0, [150])), (1, (0, 0, 13, []))], [(9, [1, 0], [159]), (20, [0], [30, 0, 1, 1, 159]), (20, [0], [30, 0, -1, 1, 159])], [(1, (0, 0, 0, []))], [], [], [], [])
theorem oo_Mo_styleOpen_at_f0_0 {kA : Nat → ClassId} : or_ok kA GG o_Mo_styleOpen_at_f0_0 := by
  intro A ta ws vs hD hth hl hk hds hf
  have hl : vs.length = 4 := hl
  have hk : ∀ q ∈ ([(0, (2, 0, 0, [150])), (1, (0, 0, 13, []))] : List (Nat × tv_T)), tv_ok ta q.2 (n_v vs q.1) := hk
  obtain ⟨t0, hk⟩ := List.forall_mem_cons.mp hk
  have t0 : tv_ok ta (2, 0, 0, [150]) (n_v vs 0) := t0
  have r0 : ta (v_ad (n_v vs 0)) = some 150 := tv_rg t0
  obtain ⟨t1, hk⟩ := List.forall_mem_cons.mp hk
  have t1 : tv_ok ta (0, 0, 13, []) (n_v vs 1) := t1
  have k1 : 0 ≤ v_iv (n_v vs 1) ∧ v_iv (n_v vs 1) ≤ 13 := tv_rng t1
  have hf : fc_ok [(9, [1, 0], [159]), (20, [0], [30, 0, 1, 1, 159]), (20, [0], [30, 0, -1, 1, 159])] ta ws vs := hf
  obtain ⟨f0, hf⟩ := fc_un (show (9 : Nat) < 100 from by decide) hf
  have f0 : n_v vs 1 = w_fd ws (v_ad (n_v vs 0)) 159 := f0
  obtain ⟨f1, hf⟩ := fc_un (show (20 : Nat) < 100 from by decide) hf
  have f1 : 1 * w_fi ws (n_v vs 0) 159 + 0 ≤ 0 := f1
  obtain ⟨f2, hf⟩ := fc_un (show (20 : Nat) < 100 from by decide) hf
  have f2 : (-1) * w_fi ws (n_v vs 0) 159 + 0 ≤ 0 := f2
  have g0 : v_iv (n_v vs 1) = w_fi ws (n_v vs 0) 159 := congrArg v_iv f0
  have kz_0_159 : 0 ≤ w_fi ws (n_v vs 0) 159 ∧ w_fi ws (n_v vs 0) 159 ≤ 13 := tv_rng (th_fd hD hth r0 (g := GG_150) rfl (k := 159) (t := (0, 0, 13, [])) rfl rfl)
  have rf1 : tv_ok ta (0, 0, 0, []) (n_v vs 1) := tv_in t1 (by omega) (by omega)
  refine ⟨List.forall_mem_cons.mpr ⟨rf1, (fun _ h => (by cases h))⟩, [], trivial, ?_, (fun _ h => (by cases h))⟩
  rw [List.append_nil]
  exact (fun _ h => (by cases h))
def o_Mo_styleOpen_at_f0_2 : or_T := (43, 9, [(0, (2, 0, 0, [150])), (1, (0, 0, 0, [])), (2, (0, 0, 2009, [])), (3, (0, 12, 12, [])), (4, (0, 1, 1, [])), (5, (0, 1, 1, [])), (6, (0, 0, 2009, [])), (7, (0, 1, 1, [])), (8, (0, 1, 2009, []))], [(101, [0, 8], [158]), (1, [8, 6, 7], []), (9, [6, 0], [158]), (20, [0], [50, 2, 1, 158, 157, 160, 2, 12, 0, 7, 4, 3, 2, 0, 158, 0, 1, 2, 0, 157, 2, 7, 0, 3, 2, 0, 157, 0, 2010, 3, 14, 1, 10, 3, 0, 160, 5, 3, 2, 0, 157, 0, 1, 0, 0, 1, 10, 3, 0, 160, 5, 3, 2, 0, 157, 0, 1, 0, 4]), (20, [0, 2], [30, 0, 1, 1, 158, -1, 0, 0]), (20, [0, 2], [30, 0, -1, 1, 158, 1, 0, 0]), (20, [0], [50, 1, 1, 158, 160, 7, 6, 3, 0, 160, 2, 0, 158, 0, 0]), (20, [0], [50, 1, 1, 158, 160, 7, 6, 3, 0, 160, 2, 0, 158, 0, 4]), (101, [0, 5], [159]), (1, [5, 1, 4], []), (9, [1, 0], [159]), (7, [1, 3], [1]), (20, [0], [50, 2, 1, 158, 157, 160, 2, 12, 0, 7, 4, 3, 2, 0, 158, 0, 1, 2, 0, 157, 2, 7, 0, 3, 2, 0, 157, 0, 2010, 3, 14, 1, 10, 3, 0, 160, 5, 3, 2, 0, 157, 0, 1, 0, 0, 1, 10, 3, 0, 160, 5, 3, 2, 0, 157, 0, 1, 0, 4]), (20, [0, 2], [30, 0, 1, 1, 158, -1, 0, 0]), (20, [0, 2], [30, 0, -1, 1, 158, 1, 0, 0]), (20, [0], [50, 1, 1, 158, 160, 7, 6, 3, 0, 160, 2, 0, 158, 0, 0]), (20, [0], [50, 1, 1, 158, 160, 7, 6, 3, 0, 160, 2, 0, 158, 0, 4]), (20, [0], [30, 0, 1, 1, 159]), (20, [0], [30, 0, -1, 1, 159])], [], [], [(20, [0], [50, 2, 1, 158, 157, 160, 2, 12, 0, 7, 4, 3, 2, 0, 158, 0, 1, 2, 0, 157, 2, 7, 0, 3, 2, 0, 157, 0, 2010, 3, 14, 1, 10, 3, 0, 160, 5, 3, 2, 0, 157, 0, 1, 0, 0, 1, 10, 3, 0, 160, 5, 3, 2, 0, 157, 0, 1, 0, 4]), (20, [2, 0], [30, -1, 1, 0, 0, -1, 1, 158]), (20, [0], [30, 1, 1, 1, 159]), (20, [0], [30, -1, -1, 1, 159])], [], [(8, 6, 1, 1)])
theorem oo_Mo_styleOpen_at_f0_2 {kA : Nat → ClassId} : or_ok kA GG o_Mo_styleOpen_at_f0_2 := by
  intro A ta ws vs hD hth hl hk hds hf
  have hl : vs.length = 9 := hl
  have hk : ∀ q ∈ ([(0, (2, 0, 0, [150])), (1, (0, 0, 0, [])), (2, (0, 0, 2009, [])), (3, (0, 12, 12, [])), (4, (0, 1, 1, [])), (5, (0, 1, 1, [])), (6, (0, 0, 2009, [])), (7, (0, 1, 1, [])), (8, (0, 1, 2009, []))] : List (Nat × tv_T)), tv_ok ta q.2 (n_v vs q.1) := hk
  obtain ⟨t0, hk⟩ := List.forall_mem_cons.mp hk
  have t0 : tv_ok ta (2, 0, 0, [150]) (n_v vs 0) := t0
  have r0 : ta (v_ad (n_v vs 0)) = some 150 := tv_rg t0
  obtain ⟨t1, hk⟩ := List.forall_mem_cons.mp hk
  have t1 : tv_ok ta (0, 0, 0, []) (n_v vs 1) := t1
  have k1 : 0 ≤ v_iv (n_v vs 1) ∧ v_iv (n_v vs 1) ≤ 0 := tv_rng t1
  obtain ⟨t2, hk⟩ := List.forall_mem_cons.mp hk
  have t2 : tv_ok ta (0, 0, 2009, []) (n_v vs 2) := t2
  have k2 : 0 ≤ v_iv (n_v vs 2) ∧ v_iv (n_v vs 2) ≤ 2009 := tv_rng t2
  obtain ⟨t3, hk⟩ := List.forall_mem_cons.mp hk
  have t3 : tv_ok ta (0, 12, 12, []) (n_v vs 3) := t3
  have k3 : 12 ≤ v_iv (n_v vs 3) ∧ v_iv (n_v vs 3) ≤ 12 := tv_rng t3
  obtain ⟨t4, hk⟩ := List.forall_mem_cons.mp hk
  have t4 : tv_ok ta (0, 1, 1, []) (n_v vs 4) := t4
  have k4 : 1 ≤ v_iv (n_v vs 4) ∧ v_iv (n_v vs 4) ≤ 1 := tv_rng t4
  obtain ⟨t5, hk⟩ := List.forall_mem_cons.mp hk
  have t5 : tv_ok ta (0, 1, 1, []) (n_v vs 5) := t5
  have k5 : 1 ≤ v_iv (n_v vs 5) ∧ v_iv (n_v vs 5) ≤ 1 := tv_rng t5
  obtain ⟨t6, hk⟩ := List.forall_mem_cons.mp hk
  have t6 : tv_ok ta (0, 0, 2009, []) (n_v vs 6) := t6
  have k6 : 0 ≤ v_iv (n_v vs 6) ∧ v_iv (n_v vs 6) ≤ 2009 := tv_rng t6
  obtain ⟨t7, hk⟩ := List.forall_mem_cons.mp hk
  have t7 : tv_ok ta (0, 1, 1, []) (n_v vs 7) := t7
  have k7 : 1 ≤ v_iv (n_v vs 7) ∧ v_iv (n_v vs 7) ≤ 1 := tv_rng t7
  obtain ⟨t8, hk⟩ := List.forall_mem_cons.mp hk
  have t8 : tv_ok ta (0, 1, 2009, []) (n_v vs 8) := t8
  have k8 : 1 ≤ v_iv (n_v vs 8) ∧ v_iv (n_v vs 8) ≤ 2009 := tv_rng t8
  have hds : ∀ q ∈ ([(8, 6, 1, 1)] : List of_T), n_iv vs q.2.1 + q.2.2.1 ≤ n_iv vs q.1 ∧ n_iv vs q.1 ≤ n_iv vs q.2.1 + q.2.2.2 := hds
  obtain ⟨d0, hds⟩ := List.forall_mem_cons.mp hds
  have d0 : v_iv (n_v vs 6) + 1 ≤ v_iv (n_v vs 8) ∧ v_iv (n_v vs 8) ≤ v_iv (n_v vs 6) + 1 := d0
  have hf : fc_ok [(101, [0, 8], [158]), (1, [8, 6, 7], []), (9, [6, 0], [158]), (20, [0], [50, 2, 1, 158, 157, 160, 2, 12, 0, 7, 4, 3, 2, 0, 158, 0, 1, 2, 0, 157, 2, 7, 0, 3, 2, 0, 157, 0, 2010, 3, 14, 1, 10, 3, 0, 160, 5, 3, 2, 0, 157, 0, 1, 0, 0, 1, 10, 3, 0, 160, 5, 3, 2, 0, 157, 0, 1, 0, 4]), (20, [0, 2], [30, 0, 1, 1, 158, -1, 0, 0]), (20, [0, 2], [30, 0, -1, 1, 158, 1, 0, 0]), (20, [0], [50, 1, 1, 158, 160, 7, 6, 3, 0, 160, 2, 0, 158, 0, 0]), (20, [0], [50, 1, 1, 158, 160, 7, 6, 3, 0, 160, 2, 0, 158, 0, 4]), (101, [0, 5], [159]), (1, [5, 1, 4], []), (9, [1, 0], [159]), (7, [1, 3], [1]), (20, [0], [50, 2, 1, 158, 157, 160, 2, 12, 0, 7, 4, 3, 2, 0, 158, 0, 1, 2, 0, 157, 2, 7, 0, 3, 2, 0, 157, 0, 2010, 3, 14, 1, 10, 3, 0, 160, 5, 3, 2, 0, 157, 0, 1, 0, 0, 1, 10, 3, 0, 160, 5, 3, 2, 0, 157, 0, 1, 0, 4]), (20, [0, 2], [30, 0, 1, 1, 158, -1, 0, 0]), (20, [0, 2], [30, 0, -1, 1, 158, 1, 0, 0]), (20, [0], [50, 1, 1, 158, 160, 7, 6, 3, 0, 160, 2, 0, 158, 0, 0]), (20, [0], [50, 1, 1, 158, 160, 7, 6, 3, 0, 160, 2, 0, 158, 0, 4]), (20, [0], [30, 0, 1, 1, 159]), (20, [0], [30, 0, -1, 1, 159])] ta ws vs := hf
  obtain ⟨ta1, w1, le1, ⟨_, s1⟩, hf⟩ := fc_us (show ¬ (101 : Nat) < 100 from by decide) hf
  have s1 : (∀ b j, w_el ws b j = w_el w1 b j) ∧ ∀ b j, w_fd ws b j = if b = v_ad (n_v vs 0) ∧ j = 158 then n_v vs 8 else w_fd w1 b j := s1
  obtain ⟨f1, hf⟩ := fc_un (show (1 : Nat) < 100 from by decide) hf
  have f1 : v_iv (n_v vs 8) = v_iv (n_v vs 6) + v_iv (n_v vs 7) := f1
  obtain ⟨f2, hf⟩ := fc_un (show (9 : Nat) < 100 from by decide) hf
  have f2 : n_v vs 6 = w_fd w1 (v_ad (n_v vs 0)) 158 := f2
  obtain ⟨f3, hf⟩ := fc_un (show (20 : Nat) < 100 from by decide) hf
  have f3 : ((w_fi w1 (n_v vs 0) 158 + 1) ≤ w_fi w1 (n_v vs 0) 157) ∧ ((w_fi w1 (n_v vs 0) 157 ≤ 2010) ∧ ((w_ei w1 (w_ar w1 (n_v vs 0) 160) ((w_fi w1 (n_v vs 0) 157 - 1)) = 0) ∨ (w_ei w1 (w_ar w1 (n_v vs 0) 160) ((w_fi w1 (n_v vs 0) 157 - 1)) = 4))) := f3
  obtain ⟨f4, hf⟩ := fc_un (show (20 : Nat) < 100 from by decide) hf
  have f4 : 1 * w_fi w1 (n_v vs 0) 158 + ((-1) * v_iv (n_v vs 2) + 0) ≤ 0 := f4
  obtain ⟨f5, hf⟩ := fc_un (show (20 : Nat) < 100 from by decide) hf
  have f5 : (-1) * w_fi w1 (n_v vs 0) 158 + (1 * v_iv (n_v vs 2) + 0) ≤ 0 := f5
  obtain ⟨f6, hf⟩ := fc_un (show (20 : Nat) < 100 from by decide) hf
  have f6 : w_ei w1 (w_ar w1 (n_v vs 0) 160) (w_fi w1 (n_v vs 0) 158) ≠ 0 := f6
  obtain ⟨f7, hf⟩ := fc_un (show (20 : Nat) < 100 from by decide) hf
  have f7 : w_ei w1 (w_ar w1 (n_v vs 0) 160) (w_fi w1 (n_v vs 0) 158) ≠ 4 := f7
  obtain ⟨ta2, w2, le2, ⟨_, s2⟩, hf⟩ := fc_us (show ¬ (101 : Nat) < 100 from by decide) hf
  have s2 : (∀ b j, w_el w1 b j = w_el w2 b j) ∧ ∀ b j, w_fd w1 b j = if b = v_ad (n_v vs 0) ∧ j = 159 then n_v vs 5 else w_fd w2 b j := s2
  obtain ⟨f9, hf⟩ := fc_un (show (1 : Nat) < 100 from by decide) hf
  have f9 : v_iv (n_v vs 5) = v_iv (n_v vs 1) + v_iv (n_v vs 4) := f9
  obtain ⟨f10, hf⟩ := fc_un (show (9 : Nat) < 100 from by decide) hf
  have f10 : n_v vs 1 = w_fd w2 (v_ad (n_v vs 0)) 159 := f10
  obtain ⟨f11, hf⟩ := fc_un (show (7 : Nat) < 100 from by decide) hf
  have f11 : v_iv (n_v vs 1) ≠ v_iv (n_v vs 3) := f11
  obtain ⟨f12, hf⟩ := fc_un (show (20 : Nat) < 100 from by decide) hf
  have f12 : ((w_fi w2 (n_v vs 0) 158 + 1) ≤ w_fi w2 (n_v vs 0) 157) ∧ ((w_fi w2 (n_v vs 0) 157 ≤ 2010) ∧ ((w_ei w2 (w_ar w2 (n_v vs 0) 160) ((w_fi w2 (n_v vs 0) 157 - 1)) = 0) ∨ (w_ei w2 (w_ar w2 (n_v vs 0) 160) ((w_fi w2 (n_v vs 0) 157 - 1)) = 4))) := f12
  obtain ⟨f13, hf⟩ := fc_un (show (20 : Nat) < 100 from by decide) hf
  have f13 : 1 * w_fi w2 (n_v vs 0) 158 + ((-1) * v_iv (n_v vs 2) + 0) ≤ 0 := f13
  obtain ⟨f14, hf⟩ := fc_un (show (20 : Nat) < 100 from by decide) hf
  have f14 : (-1) * w_fi w2 (n_v vs 0) 158 + (1 * v_iv (n_v vs 2) + 0) ≤ 0 := f14
  obtain ⟨f15, hf⟩ := fc_un (show (20 : Nat) < 100 from by decide) hf
  have f15 : w_ei w2 (w_ar w2 (n_v vs 0) 160) (w_fi w2 (n_v vs 0) 158) ≠ 0 := f15
  obtain ⟨f16, hf⟩ := fc_un (show (20 : Nat) < 100 from by decide) hf
  have f16 : w_ei w2 (w_ar w2 (n_v vs 0) 160) (w_fi w2 (n_v vs 0) 158) ≠ 4 := f16
  obtain ⟨f17, hf⟩ := fc_un (show (20 : Nat) < 100 from by decide) hf
  have f17 : 1 * w_fi w2 (n_v vs 0) 159 + 0 ≤ 0 := f17
  obtain ⟨f18, hf⟩ := fc_un (show (20 : Nat) < 100 from by decide) hf
  have f18 : (-1) * w_fi w2 (n_v vs 0) 159 + 0 ≤ 0 := f18
  have ar_0_160_1 : w_ar w1 (n_v vs 0) 160 = w_ar ws (n_v vs 0) 160 := by show v_ad (w_fd w1 _ _) = v_ad (w_fd ws _ _); rw [s1.2, if_neg (fun e => absurd e.2 (by decide))]
  have ar_0_160_2 : w_ar w2 (n_v vs 0) 160 = w_ar ws (n_v vs 0) 160 := by rw [← ar_0_160_1]; show v_ad (w_fd w2 _ _) = v_ad (w_fd w1 _ _); rw [s2.2, if_neg (fun e => absurd e.2 (by decide))]
  have cr_0_160 : ta (w_ar ws (n_v vs 0) 160) = some 259 := tv_rg (th_fd hD hth r0 (g := GG_150) rfl (k := 160) (t := (2, 0, 0, [259])) rfl rfl)
  have g2 : v_iv (n_v vs 6) = w_fi w1 (n_v vs 0) 158 := congrArg v_iv f2
  rw [ar_0_160_1] at f3
  rw [ar_0_160_1] at f6
  rw [ar_0_160_1] at f7
  have g10 : v_iv (n_v vs 1) = w_fi w2 (n_v vs 0) 159 := congrArg v_iv f10
  rw [ar_0_160_2] at f12
  rw [ar_0_160_2] at f15
  rw [ar_0_160_2] at f16
  have fe_0_157_1 : w_fi ws (n_v vs 0) 157 = w_fi w1 (n_v vs 0) 157 := by show v_iv (w_fd _ _ _) = v_iv (w_fd _ _ _); rw [s1.2, if_neg (fun e => absurd e.2 (by decide))]
  have fe_0_158_1 : w_fi ws (n_v vs 0) 158 = v_iv (n_v vs 8) := by show v_iv (w_fd _ _ _) = _; rw [s1.2, if_pos ⟨rfl, rfl⟩]
  have fe_0_159_1 : w_fi ws (n_v vs 0) 159 = w_fi w1 (n_v vs 0) 159 := by show v_iv (w_fd _ _ _) = v_iv (w_fd _ _ _); rw [s1.2, if_neg (fun e => absurd e.2 (by decide))]
  have fe_0_157_2 : w_fi w1 (n_v vs 0) 157 = w_fi w2 (n_v vs 0) 157 := by show v_iv (w_fd _ _ _) = v_iv (w_fd _ _ _); rw [s2.2, if_neg (fun e => absurd e.2 (by decide))]
  have fe_0_158_2 : w_fi w1 (n_v vs 0) 158 = w_fi w2 (n_v vs 0) 158 := by show v_iv (w_fd _ _ _) = v_iv (w_fd _ _ _); rw [s2.2, if_neg (fun e => absurd e.2 (by decide))]
  have fe_0_159_2 : w_fi w1 (n_v vs 0) 159 = v_iv (n_v vs 5) := by show v_iv (w_fd _ _ _) = _; rw [s2.2, if_pos ⟨rfl, rfl⟩]
  have hE_0_160_1 : ∀ j : Int, w_ei ws (w_ar ws (n_v vs 0) 160) j = w_ei w1 (w_ar ws (n_v vs 0) 160) j := fun j => s1.1 _ _
  have hE_0_160_2 : ∀ j : Int, w_ei w1 (w_ar ws (n_v vs 0) 160) j = w_ei w2 (w_ar ws (n_v vs 0) 160) j := fun j => s2.1 _ _
  have hK_0_160 : ∀ j : Int, 0 ≤ j → j < 2010 → 0 ≤ w_ei ws (w_ar ws (n_v vs 0) 160) j ∧ w_ei ws (w_ar ws (n_v vs 0) 160) j ≤ 4 := fun j h0 h1 => th_el hD hth cr_0_160 (kd := 0) (n := 2010) (m := 2010) (lo := 0) (hi := 4) (rs := []) (L := []) rfl (by decide) (j := j.toNat) (by omega)
  have kz_0_157 : 0 ≤ w_fi ws (n_v vs 0) 157 ∧ w_fi ws (n_v vs 0) 157 ≤ 2010 := tv_rng (th_fd hD hth r0 (g := GG_150) rfl (k := 157) (t := (0, 0, 2010, [])) rfl rfl)
  have kz_0_158 : 0 ≤ w_fi ws (n_v vs 0) 158 ∧ w_fi ws (n_v vs 0) 158 ≤ 2009 := tv_rng (th_fd hD hth r0 (g := GG_150) rfl (k := 158) (t := (0, 0, 2009, [])) rfl rfl)
  have kz_0_159 : 0 ≤ w_fi ws (n_v vs 0) 159 ∧ w_fi ws (n_v vs 0) 159 ≤ 13 := tv_rng (th_fd hD hth r0 (g := GG_150) rfl (k := 159) (t := (0, 0, 13, [])) rfl rfl)
  have nf0 : fc_1 (20, [0], [50, 2, 1, 158, 157, 160, 2, 12, 0, 7, 4, 3, 2, 0, 158, 0, 1, 2, 0, 157, 2, 7, 0, 3, 2, 0, 157, 0, 2010, 3, 14, 1, 10, 3, 0, 160, 5, 3, 2, 0, 157, 0, 1, 0, 0, 1, 10, 3, 0, 160, 5, 3, 2, 0, 157, 0, 1, 0, 4]) ws (vs) := by
    refine ⟨fun n hn => ?_, ?_⟩
    · have hn : n ∈ [0] := hn
      rw [hl]
      simp only [List.mem_cons, List.not_mem_nil, or_false] at hn
      show n < 9; omega
    · show ((w_fi ws (n_v vs 0) 158 + 1) ≤ w_fi ws (n_v vs 0) 157) ∧ ((w_fi ws (n_v vs 0) 157 ≤ 2010) ∧ ((w_ei ws (w_ar ws (n_v vs 0) 160) ((w_fi ws (n_v vs 0) 157 - 1)) = 0) ∨ (w_ei ws (w_ar ws (n_v vs 0) 160) ((w_fi ws (n_v vs 0) 157 - 1)) = 4)))
      first | omega | grind
  have nf1 : fc_1 (20, [2, 0], [30, -1, 1, 0, 0, -1, 1, 158]) ws (vs) := by
    refine ⟨fun n hn => ?_, ?_⟩
    · have hn : n ∈ [2, 0] := hn
      rw [hl]
      simp only [List.mem_cons, List.not_mem_nil, or_false] at hn
      show n < 9; omega
    · show 1 * v_iv (n_v vs 2) + ((-1) * w_fi ws (n_v vs 0) 158 + 0) ≤ (-1)
      omega
  have nf2 : fc_1 (20, [0], [30, 1, 1, 1, 159]) ws (vs) := by
    refine ⟨fun n hn => ?_, ?_⟩
    · have hn : n ∈ [0] := hn
      rw [hl]
      simp only [List.mem_cons, List.not_mem_nil, or_false] at hn
      show n < 9; omega
    · show 1 * w_fi ws (n_v vs 0) 159 + 0 ≤ 1
      omega
  have nf3 : fc_1 (20, [0], [30, -1, -1, 1, 159]) ws (vs) := by
    refine ⟨fun n hn => ?_, ?_⟩
    · have hn : n ∈ [0] := hn
      rw [hl]
      simp only [List.mem_cons, List.not_mem_nil, or_false] at hn
      show n < 9; omega
    · show (-1) * w_fi ws (n_v vs 0) 159 + 0 ≤ (-1)
      omega
  refine ⟨(fun _ h => (by cases h)), [], trivial, ?_, (fun _ h => (by cases h))⟩
  rw [List.append_nil]
  exact List.forall_mem_cons.mpr ⟨⟨show (20 : Nat) < 100 from by decide, nf0⟩, List.forall_mem_cons.mpr ⟨⟨show (20 : Nat) < 100 from by decide, nf1⟩, List.forall_mem_cons.mpr ⟨⟨show (20 : Nat) < 100 from by decide, nf2⟩, List.forall_mem_cons.mpr ⟨⟨show (20 : Nat) < 100 from by decide, nf3⟩, (fun _ h => (by cases h))⟩⟩⟩⟩
def n_Mo_styleOpen_at_f0_an : List an_T := []
def t_Mo_styleOpen_at_f0_ct : ct_L := []
set_option maxRecDepth 100000 in
theorem c_Mo_styleOpen_at_f0 {l : Launch} {D : va_G} {kA : Nat → ClassId} : ct_ok l D kA GG y_Mo_styleOpen_at_f0 z_Mo_styleOpen_at_f0 e_Mo_styleOpen_at_f0 := chk_all_ok (FT := [(348, 13, 162), (1169, 13, 158), (1175, 13, 159)]) (PT := [(1169, 13, 158, .int), (1175, 13, 159, .int)]) (CT := t_Mo_styleOpen_at_f0_ct) (KT := []) (NT := []) (AN := n_Mo_styleOpen_at_f0_an) (OT := [o_Mo_styleOpen_at_f0_0, (o_Mo_styleOpen_f_1 0), o_Mo_styleOpen_at_f0_2]) 0 200 (List.forall_mem_cons.mpr ⟨oo_Mo_styleOpen_at_f0_0, List.forall_mem_cons.mpr ⟨(oo_Mo_styleOpen_f_1 0 (by decide) (by decide)), List.forall_mem_cons.mpr ⟨oo_Mo_styleOpen_at_f0_2, List.forall_mem_nil _⟩⟩⟩) (by decide +kernel) ⟨List.forall_mem_cons.mpr ⟨gf_Mo_348, List.forall_mem_cons.mpr ⟨gf_Mo_1169, List.forall_mem_cons.mpr ⟨gf_Mo_1175, List.forall_mem_nil _⟩⟩⟩, List.forall_mem_cons.mpr ⟨pf_Mo_1169, List.forall_mem_cons.mpr ⟨pf_Mo_1175, List.forall_mem_nil _⟩⟩, List.forall_mem_nil _, List.forall_mem_nil _, List.forall_mem_nil _, GG_pl⟩ (by decide +kernel)
def n_Mo_styleOpen_at_f1_an : List an_T := []
def t_Mo_styleOpen_at_f1_ct : ct_L := []
set_option maxRecDepth 100000 in
theorem c_Mo_styleOpen_at_f1 {l : Launch} {D : va_G} {kA : Nat → ClassId} : ct_ok l D kA GG y_Mo_styleOpen_at_f1 z_Mo_styleOpen_at_f1 e_Mo_styleOpen_at_f1 := chk_all_ok (FT := [(348, 13, 162), (1169, 13, 158), (1175, 13, 159)]) (PT := [(1169, 13, 158, .int), (1175, 13, 159, .int)]) (CT := t_Mo_styleOpen_at_f1_ct) (KT := []) (NT := []) (AN := n_Mo_styleOpen_at_f1_an) (OT := [(o_Mo_styleOpen_f_0 1), (o_Mo_styleOpen_f_1 1), (o_Mo_styleOpen_f_2 1)]) 0 200 (List.forall_mem_cons.mpr ⟨(oo_Mo_styleOpen_f_0 1 (by decide) (by decide)), List.forall_mem_cons.mpr ⟨(oo_Mo_styleOpen_f_1 1 (by decide) (by decide)), List.forall_mem_cons.mpr ⟨(oo_Mo_styleOpen_f_2 1 (by decide) (by decide)), List.forall_mem_nil _⟩⟩⟩) (by decide +kernel) ⟨List.forall_mem_cons.mpr ⟨gf_Mo_348, List.forall_mem_cons.mpr ⟨gf_Mo_1169, List.forall_mem_cons.mpr ⟨gf_Mo_1175, List.forall_mem_nil _⟩⟩⟩, List.forall_mem_cons.mpr ⟨pf_Mo_1169, List.forall_mem_cons.mpr ⟨pf_Mo_1175, List.forall_mem_nil _⟩⟩, List.forall_mem_nil _, List.forall_mem_nil _, List.forall_mem_nil _, GG_pl⟩ (by decide +kernel)
def n_Mo_styleOpen_at_f10_an : List an_T := []
def t_Mo_styleOpen_at_f10_ct : ct_L := []
set_option maxRecDepth 100000 in
theorem c_Mo_styleOpen_at_f10 {l : Launch} {D : va_G} {kA : Nat → ClassId} : ct_ok l D kA GG y_Mo_styleOpen_at_f10 z_Mo_styleOpen_at_f10 e_Mo_styleOpen_at_f10 := chk_all_ok (FT := [(348, 13, 162), (1169, 13, 158), (1175, 13, 159)]) (PT := [(1169, 13, 158, .int), (1175, 13, 159, .int)]) (CT := t_Mo_styleOpen_at_f10_ct) (KT := []) (NT := []) (AN := n_Mo_styleOpen_at_f10_an) (OT := [(o_Mo_styleOpen_f_0 10), (o_Mo_styleOpen_f_1 10), (o_Mo_styleOpen_f_2 10)]) 0 200 (List.forall_mem_cons.mpr ⟨(oo_Mo_styleOpen_f_0 10 (by decide) (by decide)), List.forall_mem_cons.mpr ⟨(oo_Mo_styleOpen_f_1 10 (by decide) (by decide)), List.forall_mem_cons.mpr ⟨(oo_Mo_styleOpen_f_2 10 (by decide) (by decide)), List.forall_mem_nil _⟩⟩⟩) (by decide +kernel) ⟨List.forall_mem_cons.mpr ⟨gf_Mo_348, List.forall_mem_cons.mpr ⟨gf_Mo_1169, List.forall_mem_cons.mpr ⟨gf_Mo_1175, List.forall_mem_nil _⟩⟩⟩, List.forall_mem_cons.mpr ⟨pf_Mo_1169, List.forall_mem_cons.mpr ⟨pf_Mo_1175, List.forall_mem_nil _⟩⟩, List.forall_mem_nil _, List.forall_mem_nil _, List.forall_mem_nil _, GG_pl⟩ (by decide +kernel)
def n_Mo_styleOpen_at_f11_an : List an_T := []
def t_Mo_styleOpen_at_f11_ct : ct_L := []
set_option maxRecDepth 100000 in
theorem c_Mo_styleOpen_at_f11 {l : Launch} {D : va_G} {kA : Nat → ClassId} : ct_ok l D kA GG y_Mo_styleOpen_at_f11 z_Mo_styleOpen_at_f11 e_Mo_styleOpen_at_f11 := chk_all_ok (FT := [(348, 13, 162), (1169, 13, 158), (1175, 13, 159)]) (PT := [(1169, 13, 158, .int), (1175, 13, 159, .int)]) (CT := t_Mo_styleOpen_at_f11_ct) (KT := []) (NT := []) (AN := n_Mo_styleOpen_at_f11_an) (OT := [(o_Mo_styleOpen_f_0 11), (o_Mo_styleOpen_f_1 11), (o_Mo_styleOpen_f_2 11)]) 0 200 (List.forall_mem_cons.mpr ⟨(oo_Mo_styleOpen_f_0 11 (by decide) (by decide)), List.forall_mem_cons.mpr ⟨(oo_Mo_styleOpen_f_1 11 (by decide) (by decide)), List.forall_mem_cons.mpr ⟨(oo_Mo_styleOpen_f_2 11 (by decide) (by decide)), List.forall_mem_nil _⟩⟩⟩) (by decide +kernel) ⟨List.forall_mem_cons.mpr ⟨gf_Mo_348, List.forall_mem_cons.mpr ⟨gf_Mo_1169, List.forall_mem_cons.mpr ⟨gf_Mo_1175, List.forall_mem_nil _⟩⟩⟩, List.forall_mem_cons.mpr ⟨pf_Mo_1169, List.forall_mem_cons.mpr ⟨pf_Mo_1175, List.forall_mem_nil _⟩⟩, List.forall_mem_nil _, List.forall_mem_nil _, List.forall_mem_nil _, GG_pl⟩ (by decide +kernel)
def o_Mo_styleOpen_at_f12_1 : or_T := (40, 12, [(0, (2, 0, 0, [150])), (2, (0, 0, 2009, [])), (6, (0, 0, 2009, [])), (10, (0, 1, 1, [])), (11, (0, 1, 2010, []))], [(1, [11, 6, 10], []), (9, [6, 0], [158]), (20, [0], [50, 2, 1, 158, 157, 160, 2, 12, 0, 7, 4, 3, 2, 0, 158, 0, 1, 2, 0, 157, 2, 7, 0, 3, 2, 0, 157, 0, 2010, 3, 14, 1, 10, 3, 0, 160, 5, 3, 2, 0, 157, 0, 1, 0, 0, 1, 10, 3, 0, 160, 5, 3, 2, 0, 157, 0, 1, 0, 4]), (20, [0, 2], [30, 0, 1, 1, 158, -1, 0, 0]), (20, [0, 2], [30, 0, -1, 1, 158, 1, 0, 0]), (20, [0], [50, 1, 1, 158, 160, 7, 6, 3, 0, 160, 2, 0, 158, 0, 0]), (20, [0], [50, 1, 1, 158, 160, 7, 6, 3, 0, 160, 2, 0, 158, 0, 4]), (101, [0, 9], [159]), (20, [0], [50, 2, 1, 158, 157, 160, 2, 12, 0, 7, 4, 3, 2, 0, 158, 0, 1, 2, 0, 157, 2, 7, 0, 3, 2, 0, 157, 0, 2010, 3, 14, 1, 10, 3, 0, 160, 5, 3, 2, 0, 157, 0, 1, 0, 0, 1, 10, 3, 0, 160, 5, 3, 2, 0, 157, 0, 1, 0, 4]), (20, [0, 2], [30, 0, 1, 1, 158, -1, 0, 0]), (20, [0, 2], [30, 0, -1, 1, 158, 1, 0, 0]), (20, [0], [50, 1, 1, 158, 160, 7, 6, 3, 0, 160, 2, 0, 158, 0, 0]), (20, [0], [50, 1, 1, 158, 160, 7, 6, 3, 0, 160, 2, 0, 158, 0, 4])], [(11, (0, 1, 2009, []))], [], [], [], [(11, 6, 1, 1)])
theorem oo_Mo_styleOpen_at_f12_1 {kA : Nat → ClassId} : or_ok kA GG o_Mo_styleOpen_at_f12_1 := by
  intro A ta ws vs hD hth hl hk hds hf
  have hl : vs.length = 12 := hl
  have hk : ∀ q ∈ ([(0, (2, 0, 0, [150])), (2, (0, 0, 2009, [])), (6, (0, 0, 2009, [])), (10, (0, 1, 1, [])), (11, (0, 1, 2010, []))] : List (Nat × tv_T)), tv_ok ta q.2 (n_v vs q.1) := hk
  obtain ⟨t0, hk⟩ := List.forall_mem_cons.mp hk
  have t0 : tv_ok ta (2, 0, 0, [150]) (n_v vs 0) := t0
  have r0 : ta (v_ad (n_v vs 0)) = some 150 := tv_rg t0
  obtain ⟨t2, hk⟩ := List.forall_mem_cons.mp hk
  have t2 : tv_ok ta (0, 0, 2009, []) (n_v vs 2) := t2
  have k2 : 0 ≤ v_iv (n_v vs 2) ∧ v_iv (n_v vs 2) ≤ 2009 := tv_rng t2
  obtain ⟨t6, hk⟩ := List.forall_mem_cons.mp hk
  have t6 : tv_ok ta (0, 0, 2009, []) (n_v vs 6) := t6
  have k6 : 0 ≤ v_iv (n_v vs 6) ∧ v_iv (n_v vs 6) ≤ 2009 := tv_rng t6
  obtain ⟨t10, hk⟩ := List.forall_mem_cons.mp hk
  have t10 : tv_ok ta (0, 1, 1, []) (n_v vs 10) := t10
  have k10 : 1 ≤ v_iv (n_v vs 10) ∧ v_iv (n_v vs 10) ≤ 1 := tv_rng t10
  obtain ⟨t11, hk⟩ := List.forall_mem_cons.mp hk
  have t11 : tv_ok ta (0, 1, 2010, []) (n_v vs 11) := t11
  have k11 : 1 ≤ v_iv (n_v vs 11) ∧ v_iv (n_v vs 11) ≤ 2010 := tv_rng t11
  have hds : ∀ q ∈ ([(11, 6, 1, 1)] : List of_T), n_iv vs q.2.1 + q.2.2.1 ≤ n_iv vs q.1 ∧ n_iv vs q.1 ≤ n_iv vs q.2.1 + q.2.2.2 := hds
  obtain ⟨d0, hds⟩ := List.forall_mem_cons.mp hds
  have d0 : v_iv (n_v vs 6) + 1 ≤ v_iv (n_v vs 11) ∧ v_iv (n_v vs 11) ≤ v_iv (n_v vs 6) + 1 := d0
  have hf : fc_ok [(1, [11, 6, 10], []), (9, [6, 0], [158]), (20, [0], [50, 2, 1, 158, 157, 160, 2, 12, 0, 7, 4, 3, 2, 0, 158, 0, 1, 2, 0, 157, 2, 7, 0, 3, 2, 0, 157, 0, 2010, 3, 14, 1, 10, 3, 0, 160, 5, 3, 2, 0, 157, 0, 1, 0, 0, 1, 10, 3, 0, 160, 5, 3, 2, 0, 157, 0, 1, 0, 4]), (20, [0, 2], [30, 0, 1, 1, 158, -1, 0, 0]), (20, [0, 2], [30, 0, -1, 1, 158, 1, 0, 0]), (20, [0], [50, 1, 1, 158, 160, 7, 6, 3, 0, 160, 2, 0, 158, 0, 0]), (20, [0], [50, 1, 1, 158, 160, 7, 6, 3, 0, 160, 2, 0, 158, 0, 4]), (101, [0, 9], [159]), (20, [0], [50, 2, 1, 158, 157, 160, 2, 12, 0, 7, 4, 3, 2, 0, 158, 0, 1, 2, 0, 157, 2, 7, 0, 3, 2, 0, 157, 0, 2010, 3, 14, 1, 10, 3, 0, 160, 5, 3, 2, 0, 157, 0, 1, 0, 0, 1, 10, 3, 0, 160, 5, 3, 2, 0, 157, 0, 1, 0, 4]), (20, [0, 2], [30, 0, 1, 1, 158, -1, 0, 0]), (20, [0, 2], [30, 0, -1, 1, 158, 1, 0, 0]), (20, [0], [50, 1, 1, 158, 160, 7, 6, 3, 0, 160, 2, 0, 158, 0, 0]), (20, [0], [50, 1, 1, 158, 160, 7, 6, 3, 0, 160, 2, 0, 158, 0, 4])] ta ws vs := hf
  obtain ⟨f0, hf⟩ := fc_un (show (1 : Nat) < 100 from by decide) hf
  have f0 : v_iv (n_v vs 11) = v_iv (n_v vs 6) + v_iv (n_v vs 10) := f0
  obtain ⟨f1, hf⟩ := fc_un (show (9 : Nat) < 100 from by decide) hf
  have f1 : n_v vs 6 = w_fd ws (v_ad (n_v vs 0)) 158 := f1
  obtain ⟨f2, hf⟩ := fc_un (show (20 : Nat) < 100 from by decide) hf
  have f2 : ((w_fi ws (n_v vs 0) 158 + 1) ≤ w_fi ws (n_v vs 0) 157) ∧ ((w_fi ws (n_v vs 0) 157 ≤ 2010) ∧ ((w_ei ws (w_ar ws (n_v vs 0) 160) ((w_fi ws (n_v vs 0) 157 - 1)) = 0) ∨ (w_ei ws (w_ar ws (n_v vs 0) 160) ((w_fi ws (n_v vs 0) 157 - 1)) = 4))) := f2
  obtain ⟨f3, hf⟩ := fc_un (show (20 : Nat) < 100 from by decide) hf
  have f3 : 1 * w_fi ws (n_v vs 0) 158 + ((-1) * v_iv (n_v vs 2) + 0) ≤ 0 := f3
  obtain ⟨f4, hf⟩ := fc_un (show (20 : Nat) < 100 from by decide) hf
  have f4 : (-1) * w_fi ws (n_v vs 0) 158 + (1 * v_iv (n_v vs 2) + 0) ≤ 0 := f4
  obtain ⟨f5, hf⟩ := fc_un (show (20 : Nat) < 100 from by decide) hf
  have f5 : w_ei ws (w_ar ws (n_v vs 0) 160) (w_fi ws (n_v vs 0) 158) ≠ 0 := f5
  obtain ⟨f6, hf⟩ := fc_un (show (20 : Nat) < 100 from by decide) hf
  have f6 : w_ei ws (w_ar ws (n_v vs 0) 160) (w_fi ws (n_v vs 0) 158) ≠ 4 := f6
  obtain ⟨ta1, w1, le1, ⟨_, s1⟩, hf⟩ := fc_us (show ¬ (101 : Nat) < 100 from by decide) hf
  have s1 : (∀ b j, w_el ws b j = w_el w1 b j) ∧ ∀ b j, w_fd ws b j = if b = v_ad (n_v vs 0) ∧ j = 159 then n_v vs 9 else w_fd w1 b j := s1
  obtain ⟨f8, hf⟩ := fc_un (show (20 : Nat) < 100 from by decide) hf
  have f8 : ((w_fi w1 (n_v vs 0) 158 + 1) ≤ w_fi w1 (n_v vs 0) 157) ∧ ((w_fi w1 (n_v vs 0) 157 ≤ 2010) ∧ ((w_ei w1 (w_ar w1 (n_v vs 0) 160) ((w_fi w1 (n_v vs 0) 157 - 1)) = 0) ∨ (w_ei w1 (w_ar w1 (n_v vs 0) 160) ((w_fi w1 (n_v vs 0) 157 - 1)) = 4))) := f8
  obtain ⟨f9, hf⟩ := fc_un (show (20 : Nat) < 100 from by decide) hf
  have f9 : 1 * w_fi w1 (n_v vs 0) 158 + ((-1) * v_iv (n_v vs 2) + 0) ≤ 0 := f9
  obtain ⟨f10, hf⟩ := fc_un (show (20 : Nat) < 100 from by decide) hf
  have f10 : (-1) * w_fi w1 (n_v vs 0) 158 + (1 * v_iv (n_v vs 2) + 0) ≤ 0 := f10
  obtain ⟨f11, hf⟩ := fc_un (show (20 : Nat) < 100 from by decide) hf
  have f11 : w_ei w1 (w_ar w1 (n_v vs 0) 160) (w_fi w1 (n_v vs 0) 158) ≠ 0 := f11
  obtain ⟨f12, hf⟩ := fc_un (show (20 : Nat) < 100 from by decide) hf
  have f12 : w_ei w1 (w_ar w1 (n_v vs 0) 160) (w_fi w1 (n_v vs 0) 158) ≠ 4 := f12
  have ar_0_160_1 : w_ar w1 (n_v vs 0) 160 = w_ar ws (n_v vs 0) 160 := by show v_ad (w_fd w1 _ _) = v_ad (w_fd ws _ _); rw [s1.2, if_neg (fun e => absurd e.2 (by decide))]
  have cr_0_160 : ta (w_ar ws (n_v vs 0) 160) = some 259 := tv_rg (th_fd hD hth r0 (g := GG_150) rfl (k := 160) (t := (2, 0, 0, [259])) rfl rfl)
  have g1 : v_iv (n_v vs 6) = w_fi ws (n_v vs 0) 158 := congrArg v_iv f1
  rw [ar_0_160_1] at f8
  rw [ar_0_160_1] at f11
  rw [ar_0_160_1] at f12
  have fe_0_157_1 : w_fi ws (n_v vs 0) 157 = w_fi w1 (n_v vs 0) 157 := by show v_iv (w_fd _ _ _) = v_iv (w_fd _ _ _); rw [s1.2, if_neg (fun e => absurd e.2 (by decide))]
  have fe_0_158_1 : w_fi ws (n_v vs 0) 158 = w_fi w1 (n_v vs 0) 158 := by show v_iv (w_fd _ _ _) = v_iv (w_fd _ _ _); rw [s1.2, if_neg (fun e => absurd e.2 (by decide))]
  have hE_0_160_1 : ∀ j : Int, w_ei ws (w_ar ws (n_v vs 0) 160) j = w_ei w1 (w_ar ws (n_v vs 0) 160) j := fun j => s1.1 _ _
  have hK_0_160 : ∀ j : Int, 0 ≤ j → j < 2010 → 0 ≤ w_ei ws (w_ar ws (n_v vs 0) 160) j ∧ w_ei ws (w_ar ws (n_v vs 0) 160) j ≤ 4 := fun j h0 h1 => th_el hD hth cr_0_160 (kd := 0) (n := 2010) (m := 2010) (lo := 0) (hi := 4) (rs := []) (L := []) rfl (by decide) (j := j.toNat) (by omega)
  have kz_0_157 : 0 ≤ w_fi ws (n_v vs 0) 157 ∧ w_fi ws (n_v vs 0) 157 ≤ 2010 := tv_rng (th_fd hD hth r0 (g := GG_150) rfl (k := 157) (t := (0, 0, 2010, [])) rfl rfl)
  have kz_0_158 : 0 ≤ w_fi ws (n_v vs 0) 158 ∧ w_fi ws (n_v vs 0) 158 ≤ 2009 := tv_rng (th_fd hD hth r0 (g := GG_150) rfl (k := 158) (t := (0, 0, 2009, [])) rfl rfl)
  have rf11 : tv_ok ta (0, 1, 2009, []) (n_v vs 11) := tv_in t11 (by first | omega | grind) (by first | omega | grind)
  refine ⟨List.forall_mem_cons.mpr ⟨rf11, (fun _ h => (by cases h))⟩, [], trivial, ?_, (fun _ h => (by cases h))⟩
  rw [List.append_nil]
  exact (fun _ h => (by cases h))
def o_Mo_styleOpen_at_f12_2 : or_T := (43, 12, [(0, (2, 0, 0, [150])), (1, (0, 12, 12, [])), (2, (0, 0, 2009, [])), (3, (0, 12, 12, [])), (6, (0, 0, 2009, [])), (8, (0, 1, 1, [])), (9, (0, 13, 13, [])), (10, (0, 1, 1, [])), (11, (0, 1, 2009, []))], [(101, [0, 11], [158]), (1, [11, 6, 10], []), (9, [6, 0], [158]), (20, [0], [50, 2, 1, 158, 157, 160, 2, 12, 0, 7, 4, 3, 2, 0, 158, 0, 1, 2, 0, 157, 2, 7, 0, 3, 2, 0, 157, 0, 2010, 3, 14, 1, 10, 3, 0, 160, 5, 3, 2, 0, 157, 0, 1, 0, 0, 1, 10, 3, 0, 160, 5, 3, 2, 0, 157, 0, 1, 0, 4]), (20, [0, 2], [30, 0, 1, 1, 158, -1, 0, 0]), (20, [0, 2], [30, 0, -1, 1, 158, 1, 0, 0]), (20, [0], [50, 1, 1, 158, 160, 7, 6, 3, 0, 160, 2, 0, 158, 0, 0]), (20, [0], [50, 1, 1, 158, 160, 7, 6, 3, 0, 160, 2, 0, 158, 0, 4]), (101, [0, 9], [159]), (1, [9, 1, 8], []), (9, [1, 0], [159]), (20, [0], [50, 2, 1, 158, 157, 160, 2, 12, 0, 7, 4, 3, 2, 0, 158, 0, 1, 2, 0, 157, 2, 7, 0, 3, 2, 0, 157, 0, 2010, 3, 14, 1, 10, 3, 0, 160, 5, 3, 2, 0, 157, 0, 1, 0, 0, 1, 10, 3, 0, 160, 5, 3, 2, 0, 157, 0, 1, 0, 4]), (20, [0, 2], [30, 0, 1, 1, 158, -1, 0, 0]), (20, [0, 2], [30, 0, -1, 1, 158, 1, 0, 0]), (20, [0], [50, 1, 1, 158, 160, 7, 6, 3, 0, 160, 2, 0, 158, 0, 0]), (20, [0], [50, 1, 1, 158, 160, 7, 6, 3, 0, 160, 2, 0, 158, 0, 4]), (20, [0], [30, 12, 1, 1, 159]), (20, [0], [30, -12, -1, 1, 159]), (102, [7], [0, 13008, 13009]), (7, [1, 3], [0])], [], [], [(20, [0], [50, 2, 1, 158, 157, 160, 2, 12, 0, 7, 4, 3, 2, 0, 158, 0, 1, 2, 0, 157, 2, 7, 0, 3, 2, 0, 157, 0, 2010, 3, 14, 1, 10, 3, 0, 160, 5, 3, 2, 0, 157, 0, 1, 0, 0, 1, 10, 3, 0, 160, 5, 3, 2, 0, 157, 0, 1, 0, 4]), (20, [2, 0], [30, -1, 1, 0, 0, -1, 1, 158]), (20, [0], [30, 13, 1, 1, 159]), (20, [0], [30, -13, -1, 1, 159])], [], [(11, 6, 1, 1)])
theorem oo_Mo_styleOpen_at_f12_2 {kA : Nat → ClassId} : or_ok kA GG o_Mo_styleOpen_at_f12_2 := by
  intro A ta ws vs hD hth hl hk hds hf
  have hl : vs.length = 12 := hl
  have hk : ∀ q ∈ ([(0, (2, 0, 0, [150])), (1, (0, 12, 12, [])), (2, (0, 0, 2009, [])), (3, (0, 12, 12, [])), (6, (0, 0, 2009, [])), (8, (0, 1, 1, [])), (9, (0, 13, 13, [])), (10, (0, 1, 1, [])), (11, (0, 1, 2009, []))] : List (Nat × tv_T)), tv_ok ta q.2 (n_v vs q.1) := hk
  obtain ⟨t0, hk⟩ := List.forall_mem_cons.mp hk
  have t0 : tv_ok ta (2, 0, 0, [150]) (n_v vs 0) := t0
  have r0 : ta (v_ad (n_v vs 0)) = some 150 := tv_rg t0
  obtain ⟨t1, hk⟩ := List.forall_mem_cons.mp hk
  have t1 : tv_ok ta (0, 12, 12, []) (n_v vs 1) := t1
  have k1 : 12 ≤ v_iv (n_v vs 1) ∧ v_iv (n_v vs 1) ≤ 12 := tv_rng t1
  obtain ⟨t2, hk⟩ := List.forall_mem_cons.mp hk
  have t2 : tv_ok ta (0, 0, 2009, []) (n_v vs 2) := t2
  have k2 : 0 ≤ v_iv (n_v vs 2) ∧ v_iv (n_v vs 2) ≤ 2009 := tv_rng t2
  obtain ⟨t3, hk⟩ := List.forall_mem_cons.mp hk
  have t3 : tv_ok ta (0, 12, 12, []) (n_v vs 3) := t3
  have k3 : 12 ≤ v_iv (n_v vs 3) ∧ v_iv (n_v vs 3) ≤ 12 := tv_rng t3
  obtain ⟨t6, hk⟩ := List.forall_mem_cons.mp hk
  have t6 : tv_ok ta (0, 0, 2009, []) (n_v vs 6) := t6
  have k6 : 0 ≤ v_iv (n_v vs 6) ∧ v_iv (n_v vs 6) ≤ 2009 := tv_rng t6
  obtain ⟨t8, hk⟩ := List.forall_mem_cons.mp hk
  have t8 : tv_ok ta (0, 1, 1, []) (n_v vs 8) := t8
  have k8 : 1 ≤ v_iv (n_v vs 8) ∧ v_iv (n_v vs 8) ≤ 1 := tv_rng t8
  obtain ⟨t9, hk⟩ := List.forall_mem_cons.mp hk
  have t9 : tv_ok ta (0, 13, 13, []) (n_v vs 9) := t9
  have k9 : 13 ≤ v_iv (n_v vs 9) ∧ v_iv (n_v vs 9) ≤ 13 := tv_rng t9
  obtain ⟨t10, hk⟩ := List.forall_mem_cons.mp hk
  have t10 : tv_ok ta (0, 1, 1, []) (n_v vs 10) := t10
  have k10 : 1 ≤ v_iv (n_v vs 10) ∧ v_iv (n_v vs 10) ≤ 1 := tv_rng t10
  obtain ⟨t11, hk⟩ := List.forall_mem_cons.mp hk
  have t11 : tv_ok ta (0, 1, 2009, []) (n_v vs 11) := t11
  have k11 : 1 ≤ v_iv (n_v vs 11) ∧ v_iv (n_v vs 11) ≤ 2009 := tv_rng t11
  have hds : ∀ q ∈ ([(11, 6, 1, 1)] : List of_T), n_iv vs q.2.1 + q.2.2.1 ≤ n_iv vs q.1 ∧ n_iv vs q.1 ≤ n_iv vs q.2.1 + q.2.2.2 := hds
  obtain ⟨d0, hds⟩ := List.forall_mem_cons.mp hds
  have d0 : v_iv (n_v vs 6) + 1 ≤ v_iv (n_v vs 11) ∧ v_iv (n_v vs 11) ≤ v_iv (n_v vs 6) + 1 := d0
  have hf : fc_ok [(101, [0, 11], [158]), (1, [11, 6, 10], []), (9, [6, 0], [158]), (20, [0], [50, 2, 1, 158, 157, 160, 2, 12, 0, 7, 4, 3, 2, 0, 158, 0, 1, 2, 0, 157, 2, 7, 0, 3, 2, 0, 157, 0, 2010, 3, 14, 1, 10, 3, 0, 160, 5, 3, 2, 0, 157, 0, 1, 0, 0, 1, 10, 3, 0, 160, 5, 3, 2, 0, 157, 0, 1, 0, 4]), (20, [0, 2], [30, 0, 1, 1, 158, -1, 0, 0]), (20, [0, 2], [30, 0, -1, 1, 158, 1, 0, 0]), (20, [0], [50, 1, 1, 158, 160, 7, 6, 3, 0, 160, 2, 0, 158, 0, 0]), (20, [0], [50, 1, 1, 158, 160, 7, 6, 3, 0, 160, 2, 0, 158, 0, 4]), (101, [0, 9], [159]), (1, [9, 1, 8], []), (9, [1, 0], [159]), (20, [0], [50, 2, 1, 158, 157, 160, 2, 12, 0, 7, 4, 3, 2, 0, 158, 0, 1, 2, 0, 157, 2, 7, 0, 3, 2, 0, 157, 0, 2010, 3, 14, 1, 10, 3, 0, 160, 5, 3, 2, 0, 157, 0, 1, 0, 0, 1, 10, 3, 0, 160, 5, 3, 2, 0, 157, 0, 1, 0, 4]), (20, [0, 2], [30, 0, 1, 1, 158, -1, 0, 0]), (20, [0, 2], [30, 0, -1, 1, 158, 1, 0, 0]), (20, [0], [50, 1, 1, 158, 160, 7, 6, 3, 0, 160, 2, 0, 158, 0, 0]), (20, [0], [50, 1, 1, 158, 160, 7, 6, 3, 0, 160, 2, 0, 158, 0, 4]), (20, [0], [30, 12, 1, 1, 159]), (20, [0], [30, -12, -1, 1, 159]), (102, [7], [0, 13008, 13009]), (7, [1, 3], [0])] ta ws vs := hf
  obtain ⟨ta1, w1, le1, ⟨_, s1⟩, hf⟩ := fc_us (show ¬ (101 : Nat) < 100 from by decide) hf
  have s1 : (∀ b j, w_el ws b j = w_el w1 b j) ∧ ∀ b j, w_fd ws b j = if b = v_ad (n_v vs 0) ∧ j = 158 then n_v vs 11 else w_fd w1 b j := s1
  obtain ⟨f1, hf⟩ := fc_un (show (1 : Nat) < 100 from by decide) hf
  have f1 : v_iv (n_v vs 11) = v_iv (n_v vs 6) + v_iv (n_v vs 10) := f1
  obtain ⟨f2, hf⟩ := fc_un (show (9 : Nat) < 100 from by decide) hf
  have f2 : n_v vs 6 = w_fd w1 (v_ad (n_v vs 0)) 158 := f2
  obtain ⟨f3, hf⟩ := fc_un (show (20 : Nat) < 100 from by decide) hf
  have f3 : ((w_fi w1 (n_v vs 0) 158 + 1) ≤ w_fi w1 (n_v vs 0) 157) ∧ ((w_fi w1 (n_v vs 0) 157 ≤ 2010) ∧ ((w_ei w1 (w_ar w1 (n_v vs 0) 160) ((w_fi w1 (n_v vs 0) 157 - 1)) = 0) ∨ (w_ei w1 (w_ar w1 (n_v vs 0) 160) ((w_fi w1 (n_v vs 0) 157 - 1)) = 4))) := f3
  obtain ⟨f4, hf⟩ := fc_un (show (20 : Nat) < 100 from by decide) hf
  have f4 : 1 * w_fi w1 (n_v vs 0) 158 + ((-1) * v_iv (n_v vs 2) + 0) ≤ 0 := f4
  obtain ⟨f5, hf⟩ := fc_un (show (20 : Nat) < 100 from by decide) hf
  have f5 : (-1) * w_fi w1 (n_v vs 0) 158 + (1 * v_iv (n_v vs 2) + 0) ≤ 0 := f5
  obtain ⟨f6, hf⟩ := fc_un (show (20 : Nat) < 100 from by decide) hf
  have f6 : w_ei w1 (w_ar w1 (n_v vs 0) 160) (w_fi w1 (n_v vs 0) 158) ≠ 0 := f6
  obtain ⟨f7, hf⟩ := fc_un (show (20 : Nat) < 100 from by decide) hf
  have f7 : w_ei w1 (w_ar w1 (n_v vs 0) 160) (w_fi w1 (n_v vs 0) 158) ≠ 4 := f7
  obtain ⟨ta2, w2, le2, ⟨_, s2⟩, hf⟩ := fc_us (show ¬ (101 : Nat) < 100 from by decide) hf
  have s2 : (∀ b j, w_el w1 b j = w_el w2 b j) ∧ ∀ b j, w_fd w1 b j = if b = v_ad (n_v vs 0) ∧ j = 159 then n_v vs 9 else w_fd w2 b j := s2
  obtain ⟨f9, hf⟩ := fc_un (show (1 : Nat) < 100 from by decide) hf
  have f9 : v_iv (n_v vs 9) = v_iv (n_v vs 1) + v_iv (n_v vs 8) := f9
  obtain ⟨f10, hf⟩ := fc_un (show (9 : Nat) < 100 from by decide) hf
  have f10 : n_v vs 1 = w_fd w2 (v_ad (n_v vs 0)) 159 := f10
  obtain ⟨f11, hf⟩ := fc_un (show (20 : Nat) < 100 from by decide) hf
  have f11 : ((w_fi w2 (n_v vs 0) 158 + 1) ≤ w_fi w2 (n_v vs 0) 157) ∧ ((w_fi w2 (n_v vs 0) 157 ≤ 2010) ∧ ((w_ei w2 (w_ar w2 (n_v vs 0) 160) ((w_fi w2 (n_v vs 0) 157 - 1)) = 0) ∨ (w_ei w2 (w_ar w2 (n_v vs 0) 160) ((w_fi w2 (n_v vs 0) 157 - 1)) = 4))) := f11
  obtain ⟨f12, hf⟩ := fc_un (show (20 : Nat) < 100 from by decide) hf
  have f12 : 1 * w_fi w2 (n_v vs 0) 158 + ((-1) * v_iv (n_v vs 2) + 0) ≤ 0 := f12
  obtain ⟨f13, hf⟩ := fc_un (show (20 : Nat) < 100 from by decide) hf
  have f13 : (-1) * w_fi w2 (n_v vs 0) 158 + (1 * v_iv (n_v vs 2) + 0) ≤ 0 := f13
  obtain ⟨f14, hf⟩ := fc_un (show (20 : Nat) < 100 from by decide) hf
  have f14 : w_ei w2 (w_ar w2 (n_v vs 0) 160) (w_fi w2 (n_v vs 0) 158) ≠ 0 := f14
  obtain ⟨f15, hf⟩ := fc_un (show (20 : Nat) < 100 from by decide) hf
  have f15 : w_ei w2 (w_ar w2 (n_v vs 0) 160) (w_fi w2 (n_v vs 0) 158) ≠ 4 := f15
  obtain ⟨f16, hf⟩ := fc_un (show (20 : Nat) < 100 from by decide) hf
  have f16 : 1 * w_fi w2 (n_v vs 0) 159 + 0 ≤ 12 := f16
  obtain ⟨f17, hf⟩ := fc_un (show (20 : Nat) < 100 from by decide) hf
  have f17 : (-1) * w_fi w2 (n_v vs 0) 159 + 0 ≤ (-12) := f17
  obtain ⟨ta3, w3, le3, ⟨_, s3⟩, hf⟩ := fc_us (show ¬ (102 : Nat) < 100 from by decide) hf
  obtain ⟨f19, hf⟩ := fc_un (show (7 : Nat) < 100 from by decide) hf
  have f19 : v_iv (n_v vs 1) = v_iv (n_v vs 3) := f19
  have ar_0_160_1 : w_ar w1 (n_v vs 0) 160 = w_ar ws (n_v vs 0) 160 := by show v_ad (w_fd w1 _ _) = v_ad (w_fd ws _ _); rw [s1.2, if_neg (fun e => absurd e.2 (by decide))]
  have ar_0_160_2 : w_ar w2 (n_v vs 0) 160 = w_ar ws (n_v vs 0) 160 := by rw [← ar_0_160_1]; show v_ad (w_fd w2 _ _) = v_ad (w_fd w1 _ _); rw [s2.2, if_neg (fun e => absurd e.2 (by decide))]
  have cr_0_160 : ta (w_ar ws (n_v vs 0) 160) = some 259 := tv_rg (th_fd hD hth r0 (g := GG_150) rfl (k := 160) (t := (2, 0, 0, [259])) rfl rfl)
  have g2 : v_iv (n_v vs 6) = w_fi w1 (n_v vs 0) 158 := congrArg v_iv f2
  rw [ar_0_160_1] at f3
  rw [ar_0_160_1] at f6
  rw [ar_0_160_1] at f7
  have g10 : v_iv (n_v vs 1) = w_fi w2 (n_v vs 0) 159 := congrArg v_iv f10
  rw [ar_0_160_2] at f11
  rw [ar_0_160_2] at f14
  rw [ar_0_160_2] at f15
  have fe_0_157_1 : w_fi ws (n_v vs 0) 157 = w_fi w1 (n_v vs 0) 157 := by show v_iv (w_fd _ _ _) = v_iv (w_fd _ _ _); rw [s1.2, if_neg (fun e => absurd e.2 (by decide))]
  have fe_0_158_1 : w_fi ws (n_v vs 0) 158 = v_iv (n_v vs 11) := by show v_iv (w_fd _ _ _) = _; rw [s1.2, if_pos ⟨rfl, rfl⟩]
  have fe_0_159_1 : w_fi ws (n_v vs 0) 159 = w_fi w1 (n_v vs 0) 159 := by show v_iv (w_fd _ _ _) = v_iv (w_fd _ _ _); rw [s1.2, if_neg (fun e => absurd e.2 (by decide))]
  have fe_0_157_2 : w_fi w1 (n_v vs 0) 157 = w_fi w2 (n_v vs 0) 157 := by show v_iv (w_fd _ _ _) = v_iv (w_fd _ _ _); rw [s2.2, if_neg (fun e => absurd e.2 (by decide))]
  have fe_0_158_2 : w_fi w1 (n_v vs 0) 158 = w_fi w2 (n_v vs 0) 158 := by show v_iv (w_fd _ _ _) = v_iv (w_fd _ _ _); rw [s2.2, if_neg (fun e => absurd e.2 (by decide))]
  have fe_0_159_2 : w_fi w1 (n_v vs 0) 159 = v_iv (n_v vs 9) := by show v_iv (w_fd _ _ _) = _; rw [s2.2, if_pos ⟨rfl, rfl⟩]
  have hE_0_160_1 : ∀ j : Int, w_ei ws (w_ar ws (n_v vs 0) 160) j = w_ei w1 (w_ar ws (n_v vs 0) 160) j := fun j => s1.1 _ _
  have hE_0_160_2 : ∀ j : Int, w_ei w1 (w_ar ws (n_v vs 0) 160) j = w_ei w2 (w_ar ws (n_v vs 0) 160) j := fun j => s2.1 _ _
  have hK_0_160 : ∀ j : Int, 0 ≤ j → j < 2010 → 0 ≤ w_ei ws (w_ar ws (n_v vs 0) 160) j ∧ w_ei ws (w_ar ws (n_v vs 0) 160) j ≤ 4 := fun j h0 h1 => th_el hD hth cr_0_160 (kd := 0) (n := 2010) (m := 2010) (lo := 0) (hi := 4) (rs := []) (L := []) rfl (by decide) (j := j.toNat) (by omega)
  have kz_0_157 : 0 ≤ w_fi ws (n_v vs 0) 157 ∧ w_fi ws (n_v vs 0) 157 ≤ 2010 := tv_rng (th_fd hD hth r0 (g := GG_150) rfl (k := 157) (t := (0, 0, 2010, [])) rfl rfl)
  have kz_0_158 : 0 ≤ w_fi ws (n_v vs 0) 158 ∧ w_fi ws (n_v vs 0) 158 ≤ 2009 := tv_rng (th_fd hD hth r0 (g := GG_150) rfl (k := 158) (t := (0, 0, 2009, [])) rfl rfl)
  have kz_0_159 : 0 ≤ w_fi ws (n_v vs 0) 159 ∧ w_fi ws (n_v vs 0) 159 ≤ 13 := tv_rng (th_fd hD hth r0 (g := GG_150) rfl (k := 159) (t := (0, 0, 13, [])) rfl rfl)
  have nf0 : fc_1 (20, [0], [50, 2, 1, 158, 157, 160, 2, 12, 0, 7, 4, 3, 2, 0, 158, 0, 1, 2, 0, 157, 2, 7, 0, 3, 2, 0, 157, 0, 2010, 3, 14, 1, 10, 3, 0, 160, 5, 3, 2, 0, 157, 0, 1, 0, 0, 1, 10, 3, 0, 160, 5, 3, 2, 0, 157, 0, 1, 0, 4]) ws (vs) := by
    refine ⟨fun n hn => ?_, ?_⟩
    · have hn : n ∈ [0] := hn
      rw [hl]
      simp only [List.mem_cons, List.not_mem_nil, or_false] at hn
      show n < 12; omega
    · show ((w_fi ws (n_v vs 0) 158 + 1) ≤ w_fi ws (n_v vs 0) 157) ∧ ((w_fi ws (n_v vs 0) 157 ≤ 2010) ∧ ((w_ei ws (w_ar ws (n_v vs 0) 160) ((w_fi ws (n_v vs 0) 157 - 1)) = 0) ∨ (w_ei ws (w_ar ws (n_v vs 0) 160) ((w_fi ws (n_v vs 0) 157 - 1)) = 4)))
      first | omega | grind
  have nf1 : fc_1 (20, [2, 0], [30, -1, 1, 0, 0, -1, 1, 158]) ws (vs) := by
    refine ⟨fun n hn => ?_, ?_⟩
    · have hn : n ∈ [2, 0] := hn
      rw [hl]
      simp only [List.mem_cons, List.not_mem_nil, or_false] at hn
      show n < 12; omega
    · show 1 * v_iv (n_v vs 2) + ((-1) * w_fi ws (n_v vs 0) 158 + 0) ≤ (-1)
      omega
  have nf2 : fc_1 (20, [0], [30, 13, 1, 1, 159]) ws (vs) := by
    refine ⟨fun n hn => ?_, ?_⟩
    · have hn : n ∈ [0] := hn
      rw [hl]
      simp only [List.mem_cons, List.not_mem_nil, or_false] at hn
      show n < 12; omega
    · show 1 * w_fi ws (n_v vs 0) 159 + 0 ≤ 13
      omega
  have nf3 : fc_1 (20, [0], [30, -13, -1, 1, 159]) ws (vs) := by
    refine ⟨fun n hn => ?_, ?_⟩
    · have hn : n ∈ [0] := hn
      rw [hl]
      simp only [List.mem_cons, List.not_mem_nil, or_false] at hn
      show n < 12; omega
    · show (-1) * w_fi ws (n_v vs 0) 159 + 0 ≤ (-13)
      omega
  refine ⟨(fun _ h => (by cases h)), [], trivial, ?_, (fun _ h => (by cases h))⟩
  rw [List.append_nil]
  exact List.forall_mem_cons.mpr ⟨⟨show (20 : Nat) < 100 from by decide, nf0⟩, List.forall_mem_cons.mpr ⟨⟨show (20 : Nat) < 100 from by decide, nf1⟩, List.forall_mem_cons.mpr ⟨⟨show (20 : Nat) < 100 from by decide, nf2⟩, List.forall_mem_cons.mpr ⟨⟨show (20 : Nat) < 100 from by decide, nf3⟩, (fun _ h => (by cases h))⟩⟩⟩⟩
def n_Mo_styleOpen_at_f12_an : List an_T := []
def t_Mo_styleOpen_at_f12_ct : ct_L := [(1, 463, e_Mo_wrong)]
set_option maxRecDepth 100000 in
theorem c_Mo_styleOpen_at_f12 {l : Launch} {D : va_G} {kA : Nat → ClassId} (h_Mo_wrong : ct_ok l D kA GG y_Mo_wrong z_Mo_wrong e_Mo_wrong) : ct_ok l D kA GG y_Mo_styleOpen_at_f12 z_Mo_styleOpen_at_f12 e_Mo_styleOpen_at_f12 := chk_all_ok (FT := [(348, 13, 162), (1169, 13, 158), (1175, 13, 159)]) (PT := [(1169, 13, 158, .int), (1175, 13, 159, .int)]) (CT := t_Mo_styleOpen_at_f12_ct) (KT := []) (NT := []) (AN := n_Mo_styleOpen_at_f12_an) (OT := [(o_Mo_styleOpen_f_0 12), o_Mo_styleOpen_at_f12_1, o_Mo_styleOpen_at_f12_2]) 0 200 (List.forall_mem_cons.mpr ⟨(oo_Mo_styleOpen_f_0 12 (by decide) (by decide)), List.forall_mem_cons.mpr ⟨oo_Mo_styleOpen_at_f12_1, List.forall_mem_cons.mpr ⟨oo_Mo_styleOpen_at_f12_2, List.forall_mem_nil _⟩⟩⟩) (by decide +kernel) ⟨List.forall_mem_cons.mpr ⟨gf_Mo_348, List.forall_mem_cons.mpr ⟨gf_Mo_1169, List.forall_mem_cons.mpr ⟨gf_Mo_1175, List.forall_mem_nil _⟩⟩⟩, List.forall_mem_cons.mpr ⟨pf_Mo_1169, List.forall_mem_cons.mpr ⟨pf_Mo_1175, List.forall_mem_nil _⟩⟩, List.forall_mem_cons.mpr ⟨cl_virtual (y := y_Mo_wrong) (ci := 13) rfl rfl ⟨_, _, rfl⟩ (by decide +kernel) h_Mo_wrong wm_3017 wm_9 wm_3014 wm_3016 wv_13_1 ⟨by decide, by decide, by decide +kernel⟩ (by decide), List.forall_mem_nil _⟩, List.forall_mem_nil _, List.forall_mem_nil _, GG_pl⟩ (by decide +kernel)
def n_Mo_styleOpen_at_f2_an : List an_T := []
def t_Mo_styleOpen_at_f2_ct : ct_L := []
set_option maxRecDepth 100000 in
theorem c_Mo_styleOpen_at_f2 {l : Launch} {D : va_G} {kA : Nat → ClassId} : ct_ok l D kA GG y_Mo_styleOpen_at_f2 z_Mo_styleOpen_at_f2 e_Mo_styleOpen_at_f2 := chk_all_ok (FT := [(348, 13, 162), (1169, 13, 158), (1175, 13, 159)]) (PT := [(1169, 13, 158, .int), (1175, 13, 159, .int)]) (CT := t_Mo_styleOpen_at_f2_ct) (KT := []) (NT := []) (AN := n_Mo_styleOpen_at_f2_an) (OT := [(o_Mo_styleOpen_f_0 2), (o_Mo_styleOpen_f_1 2), (o_Mo_styleOpen_f_2 2)]) 0 200 (List.forall_mem_cons.mpr ⟨(oo_Mo_styleOpen_f_0 2 (by decide) (by decide)), List.forall_mem_cons.mpr ⟨(oo_Mo_styleOpen_f_1 2 (by decide) (by decide)), List.forall_mem_cons.mpr ⟨(oo_Mo_styleOpen_f_2 2 (by decide) (by decide)), List.forall_mem_nil _⟩⟩⟩) (by decide +kernel) ⟨List.forall_mem_cons.mpr ⟨gf_Mo_348, List.forall_mem_cons.mpr ⟨gf_Mo_1169, List.forall_mem_cons.mpr ⟨gf_Mo_1175, List.forall_mem_nil _⟩⟩⟩, List.forall_mem_cons.mpr ⟨pf_Mo_1169, List.forall_mem_cons.mpr ⟨pf_Mo_1175, List.forall_mem_nil _⟩⟩, List.forall_mem_nil _, List.forall_mem_nil _, List.forall_mem_nil _, GG_pl⟩ (by decide +kernel)
def n_Mo_styleOpen_at_f3_an : List an_T := []
def t_Mo_styleOpen_at_f3_ct : ct_L := []
set_option maxRecDepth 100000 in
theorem c_Mo_styleOpen_at_f3 {l : Launch} {D : va_G} {kA : Nat → ClassId} : ct_ok l D kA GG y_Mo_styleOpen_at_f3 z_Mo_styleOpen_at_f3 e_Mo_styleOpen_at_f3 := chk_all_ok (FT := [(348, 13, 162), (1169, 13, 158), (1175, 13, 159)]) (PT := [(1169, 13, 158, .int), (1175, 13, 159, .int)]) (CT := t_Mo_styleOpen_at_f3_ct) (KT := []) (NT := []) (AN := n_Mo_styleOpen_at_f3_an) (OT := [(o_Mo_styleOpen_f_0 3), (o_Mo_styleOpen_f_1 3), (o_Mo_styleOpen_f_2 3)]) 0 200 (List.forall_mem_cons.mpr ⟨(oo_Mo_styleOpen_f_0 3 (by decide) (by decide)), List.forall_mem_cons.mpr ⟨(oo_Mo_styleOpen_f_1 3 (by decide) (by decide)), List.forall_mem_cons.mpr ⟨(oo_Mo_styleOpen_f_2 3 (by decide) (by decide)), List.forall_mem_nil _⟩⟩⟩) (by decide +kernel) ⟨List.forall_mem_cons.mpr ⟨gf_Mo_348, List.forall_mem_cons.mpr ⟨gf_Mo_1169, List.forall_mem_cons.mpr ⟨gf_Mo_1175, List.forall_mem_nil _⟩⟩⟩, List.forall_mem_cons.mpr ⟨pf_Mo_1169, List.forall_mem_cons.mpr ⟨pf_Mo_1175, List.forall_mem_nil _⟩⟩, List.forall_mem_nil _, List.forall_mem_nil _, List.forall_mem_nil _, GG_pl⟩ (by decide +kernel)
def n_Mo_styleOpen_at_f4_an : List an_T := []
def t_Mo_styleOpen_at_f4_ct : ct_L := []
set_option maxRecDepth 100000 in
theorem c_Mo_styleOpen_at_f4 {l : Launch} {D : va_G} {kA : Nat → ClassId} : ct_ok l D kA GG y_Mo_styleOpen_at_f4 z_Mo_styleOpen_at_f4 e_Mo_styleOpen_at_f4 := chk_all_ok (FT := [(348, 13, 162), (1169, 13, 158), (1175, 13, 159)]) (PT := [(1169, 13, 158, .int), (1175, 13, 159, .int)]) (CT := t_Mo_styleOpen_at_f4_ct) (KT := []) (NT := []) (AN := n_Mo_styleOpen_at_f4_an) (OT := [(o_Mo_styleOpen_f_0 4), (o_Mo_styleOpen_f_1 4), (o_Mo_styleOpen_f_2 4)]) 0 200 (List.forall_mem_cons.mpr ⟨(oo_Mo_styleOpen_f_0 4 (by decide) (by decide)), List.forall_mem_cons.mpr ⟨(oo_Mo_styleOpen_f_1 4 (by decide) (by decide)), List.forall_mem_cons.mpr ⟨(oo_Mo_styleOpen_f_2 4 (by decide) (by decide)), List.forall_mem_nil _⟩⟩⟩) (by decide +kernel) ⟨List.forall_mem_cons.mpr ⟨gf_Mo_348, List.forall_mem_cons.mpr ⟨gf_Mo_1169, List.forall_mem_cons.mpr ⟨gf_Mo_1175, List.forall_mem_nil _⟩⟩⟩, List.forall_mem_cons.mpr ⟨pf_Mo_1169, List.forall_mem_cons.mpr ⟨pf_Mo_1175, List.forall_mem_nil _⟩⟩, List.forall_mem_nil _, List.forall_mem_nil _, List.forall_mem_nil _, GG_pl⟩ (by decide +kernel)
def n_Mo_styleOpen_at_f5_an : List an_T := []
def t_Mo_styleOpen_at_f5_ct : ct_L := []
set_option maxRecDepth 100000 in
theorem c_Mo_styleOpen_at_f5 {l : Launch} {D : va_G} {kA : Nat → ClassId} : ct_ok l D kA GG y_Mo_styleOpen_at_f5 z_Mo_styleOpen_at_f5 e_Mo_styleOpen_at_f5 := chk_all_ok (FT := [(348, 13, 162), (1169, 13, 158), (1175, 13, 159)]) (PT := [(1169, 13, 158, .int), (1175, 13, 159, .int)]) (CT := t_Mo_styleOpen_at_f5_ct) (KT := []) (NT := []) (AN := n_Mo_styleOpen_at_f5_an) (OT := [(o_Mo_styleOpen_f_0 5), (o_Mo_styleOpen_f_1 5), (o_Mo_styleOpen_f_2 5)]) 0 200 (List.forall_mem_cons.mpr ⟨(oo_Mo_styleOpen_f_0 5 (by decide) (by decide)), List.forall_mem_cons.mpr ⟨(oo_Mo_styleOpen_f_1 5 (by decide) (by decide)), List.forall_mem_cons.mpr ⟨(oo_Mo_styleOpen_f_2 5 (by decide) (by decide)), List.forall_mem_nil _⟩⟩⟩) (by decide +kernel) ⟨List.forall_mem_cons.mpr ⟨gf_Mo_348, List.forall_mem_cons.mpr ⟨gf_Mo_1169, List.forall_mem_cons.mpr ⟨gf_Mo_1175, List.forall_mem_nil _⟩⟩⟩, List.forall_mem_cons.mpr ⟨pf_Mo_1169, List.forall_mem_cons.mpr ⟨pf_Mo_1175, List.forall_mem_nil _⟩⟩, List.forall_mem_nil _, List.forall_mem_nil _, List.forall_mem_nil _, GG_pl⟩ (by decide +kernel)
def n_Mo_styleOpen_at_f6_an : List an_T := []
def t_Mo_styleOpen_at_f6_ct : ct_L := []
set_option maxRecDepth 100000 in
theorem c_Mo_styleOpen_at_f6 {l : Launch} {D : va_G} {kA : Nat → ClassId} : ct_ok l D kA GG y_Mo_styleOpen_at_f6 z_Mo_styleOpen_at_f6 e_Mo_styleOpen_at_f6 := chk_all_ok (FT := [(348, 13, 162), (1169, 13, 158), (1175, 13, 159)]) (PT := [(1169, 13, 158, .int), (1175, 13, 159, .int)]) (CT := t_Mo_styleOpen_at_f6_ct) (KT := []) (NT := []) (AN := n_Mo_styleOpen_at_f6_an) (OT := [(o_Mo_styleOpen_f_0 6), (o_Mo_styleOpen_f_1 6), (o_Mo_styleOpen_f_2 6)]) 0 200 (List.forall_mem_cons.mpr ⟨(oo_Mo_styleOpen_f_0 6 (by decide) (by decide)), List.forall_mem_cons.mpr ⟨(oo_Mo_styleOpen_f_1 6 (by decide) (by decide)), List.forall_mem_cons.mpr ⟨(oo_Mo_styleOpen_f_2 6 (by decide) (by decide)), List.forall_mem_nil _⟩⟩⟩) (by decide +kernel) ⟨List.forall_mem_cons.mpr ⟨gf_Mo_348, List.forall_mem_cons.mpr ⟨gf_Mo_1169, List.forall_mem_cons.mpr ⟨gf_Mo_1175, List.forall_mem_nil _⟩⟩⟩, List.forall_mem_cons.mpr ⟨pf_Mo_1169, List.forall_mem_cons.mpr ⟨pf_Mo_1175, List.forall_mem_nil _⟩⟩, List.forall_mem_nil _, List.forall_mem_nil _, List.forall_mem_nil _, GG_pl⟩ (by decide +kernel)
def n_Mo_styleOpen_at_f7_an : List an_T := []
def t_Mo_styleOpen_at_f7_ct : ct_L := []
set_option maxRecDepth 100000 in
theorem c_Mo_styleOpen_at_f7 {l : Launch} {D : va_G} {kA : Nat → ClassId} : ct_ok l D kA GG y_Mo_styleOpen_at_f7 z_Mo_styleOpen_at_f7 e_Mo_styleOpen_at_f7 := chk_all_ok (FT := [(348, 13, 162), (1169, 13, 158), (1175, 13, 159)]) (PT := [(1169, 13, 158, .int), (1175, 13, 159, .int)]) (CT := t_Mo_styleOpen_at_f7_ct) (KT := []) (NT := []) (AN := n_Mo_styleOpen_at_f7_an) (OT := [(o_Mo_styleOpen_f_0 7), (o_Mo_styleOpen_f_1 7), (o_Mo_styleOpen_f_2 7)]) 0 200 (List.forall_mem_cons.mpr ⟨(oo_Mo_styleOpen_f_0 7 (by decide) (by decide)), List.forall_mem_cons.mpr ⟨(oo_Mo_styleOpen_f_1 7 (by decide) (by decide)), List.forall_mem_cons.mpr ⟨(oo_Mo_styleOpen_f_2 7 (by decide) (by decide)), List.forall_mem_nil _⟩⟩⟩) (by decide +kernel) ⟨List.forall_mem_cons.mpr ⟨gf_Mo_348, List.forall_mem_cons.mpr ⟨gf_Mo_1169, List.forall_mem_cons.mpr ⟨gf_Mo_1175, List.forall_mem_nil _⟩⟩⟩, List.forall_mem_cons.mpr ⟨pf_Mo_1169, List.forall_mem_cons.mpr ⟨pf_Mo_1175, List.forall_mem_nil _⟩⟩, List.forall_mem_nil _, List.forall_mem_nil _, List.forall_mem_nil _, GG_pl⟩ (by decide +kernel)
def n_Mo_styleOpen_at_f8_an : List an_T := []
def t_Mo_styleOpen_at_f8_ct : ct_L := []
set_option maxRecDepth 100000 in
theorem c_Mo_styleOpen_at_f8 {l : Launch} {D : va_G} {kA : Nat → ClassId} : ct_ok l D kA GG y_Mo_styleOpen_at_f8 z_Mo_styleOpen_at_f8 e_Mo_styleOpen_at_f8 := chk_all_ok (FT := [(348, 13, 162), (1169, 13, 158), (1175, 13, 159)]) (PT := [(1169, 13, 158, .int), (1175, 13, 159, .int)]) (CT := t_Mo_styleOpen_at_f8_ct) (KT := []) (NT := []) (AN := n_Mo_styleOpen_at_f8_an) (OT := [(o_Mo_styleOpen_f_0 8), (o_Mo_styleOpen_f_1 8), (o_Mo_styleOpen_f_2 8)]) 0 200 (List.forall_mem_cons.mpr ⟨(oo_Mo_styleOpen_f_0 8 (by decide) (by decide)), List.forall_mem_cons.mpr ⟨(oo_Mo_styleOpen_f_1 8 (by decide) (by decide)), List.forall_mem_cons.mpr ⟨(oo_Mo_styleOpen_f_2 8 (by decide) (by decide)), List.forall_mem_nil _⟩⟩⟩) (by decide +kernel) ⟨List.forall_mem_cons.mpr ⟨gf_Mo_348, List.forall_mem_cons.mpr ⟨gf_Mo_1169, List.forall_mem_cons.mpr ⟨gf_Mo_1175, List.forall_mem_nil _⟩⟩⟩, List.forall_mem_cons.mpr ⟨pf_Mo_1169, List.forall_mem_cons.mpr ⟨pf_Mo_1175, List.forall_mem_nil _⟩⟩, List.forall_mem_nil _, List.forall_mem_nil _, List.forall_mem_nil _, GG_pl⟩ (by decide +kernel)
def n_Mo_styleOpen_at_f9_an : List an_T := []
def t_Mo_styleOpen_at_f9_ct : ct_L := []
set_option maxRecDepth 100000 in
theorem c_Mo_styleOpen_at_f9 {l : Launch} {D : va_G} {kA : Nat → ClassId} : ct_ok l D kA GG y_Mo_styleOpen_at_f9 z_Mo_styleOpen_at_f9 e_Mo_styleOpen_at_f9 := chk_all_ok (FT := [(348, 13, 162), (1169, 13, 158), (1175, 13, 159)]) (PT := [(1169, 13, 158, .int), (1175, 13, 159, .int)]) (CT := t_Mo_styleOpen_at_f9_ct) (KT := []) (NT := []) (AN := n_Mo_styleOpen_at_f9_an) (OT := [(o_Mo_styleOpen_f_0 9), (o_Mo_styleOpen_f_1 9), (o_Mo_styleOpen_f_2 9)]) 0 200 (List.forall_mem_cons.mpr ⟨(oo_Mo_styleOpen_f_0 9 (by decide) (by decide)), List.forall_mem_cons.mpr ⟨(oo_Mo_styleOpen_f_1 9 (by decide) (by decide)), List.forall_mem_cons.mpr ⟨(oo_Mo_styleOpen_f_2 9 (by decide) (by decide)), List.forall_mem_nil _⟩⟩⟩) (by decide +kernel) ⟨List.forall_mem_cons.mpr ⟨gf_Mo_348, List.forall_mem_cons.mpr ⟨gf_Mo_1169, List.forall_mem_cons.mpr ⟨gf_Mo_1175, List.forall_mem_nil _⟩⟩⟩, List.forall_mem_cons.mpr ⟨pf_Mo_1169, List.forall_mem_cons.mpr ⟨pf_Mo_1175, List.forall_mem_nil _⟩⟩, List.forall_mem_nil _, List.forall_mem_nil _, List.forall_mem_nil _, GG_pl⟩ (by decide +kernel)
def o_Mo_take_0 : or_T := (14, 5, [(0, (2, 0, 0, [150])), (1, (0, 0, 3, [])), (2, (2, 0, 0, [153])), (3, (0, 0, 30, [])), (4, (0, 0, 66297, []))], [(23, [4, 1, 3], [0, 1, -16709, -539]), (23, [4, 1, 3], [0, -1, 16709, 539]), (101, [0, 4], [5]), (23, [4, 1, 3], [0, 1, -16709, -539]), (23, [4, 1, 3], [0, -1, 16709, 539]), (10, [3, 2, 1], []), (9, [2, 0], [3])], [], [], [(20, [0, 1], [50, 1, 1, 5, 3, 1, 3, 2, 0, 5, 4, 6, 6, 2, 0, 16709, 1, 1, 6, 2, 0, 539, 3, 0, 3, 1, 1])], [], [])
theorem oo_Mo_take_0 {kA : Nat → ClassId} : or_ok kA GG o_Mo_take_0 := by
  intro A ta ws vs hD hth hl hk hds hf
  have hl : vs.length = 5 := hl
  have hk : ∀ q ∈ ([(0, (2, 0, 0, [150])), (1, (0, 0, 3, [])), (2, (2, 0, 0, [153])), (3, (0, 0, 30, [])), (4, (0, 0, 66297, []))] : List (Nat × tv_T)), tv_ok ta q.2 (n_v vs q.1) := hk
  obtain ⟨t0, hk⟩ := List.forall_mem_cons.mp hk
  have t0 : tv_ok ta (2, 0, 0, [150]) (n_v vs 0) := t0
  have r0 : ta (v_ad (n_v vs 0)) = some 150 := tv_rg t0
  obtain ⟨t1, hk⟩ := List.forall_mem_cons.mp hk
  have t1 : tv_ok ta (0, 0, 3, []) (n_v vs 1) := t1
  have k1 : 0 ≤ v_iv (n_v vs 1) ∧ v_iv (n_v vs 1) ≤ 3 := tv_rng t1
  obtain ⟨t2, hk⟩ := List.forall_mem_cons.mp hk
  have t2 : tv_ok ta (2, 0, 0, [153]) (n_v vs 2) := t2
  have r2 : ta (v_ad (n_v vs 2)) = some 153 := tv_rg t2
  obtain ⟨t3, hk⟩ := List.forall_mem_cons.mp hk
  have t3 : tv_ok ta (0, 0, 30, []) (n_v vs 3) := t3
  have k3 : 0 ≤ v_iv (n_v vs 3) ∧ v_iv (n_v vs 3) ≤ 30 := tv_rng t3
  obtain ⟨t4, hk⟩ := List.forall_mem_cons.mp hk
  have t4 : tv_ok ta (0, 0, 66297, []) (n_v vs 4) := t4
  have k4 : 0 ≤ v_iv (n_v vs 4) ∧ v_iv (n_v vs 4) ≤ 66297 := tv_rng t4
  have hf : fc_ok [(23, [4, 1, 3], [0, 1, -16709, -539]), (23, [4, 1, 3], [0, -1, 16709, 539]), (101, [0, 4], [5]), (23, [4, 1, 3], [0, 1, -16709, -539]), (23, [4, 1, 3], [0, -1, 16709, 539]), (10, [3, 2, 1], []), (9, [2, 0], [3])] ta ws vs := hf
  obtain ⟨f0, hf⟩ := fc_un (show (23 : Nat) < 100 from by decide) hf
  have f0 : 1 * v_iv (n_v vs 4) + ((-16709) * v_iv (n_v vs 1) + ((-539) * v_iv (n_v vs 3) + 0)) ≤ 0 := f0
  obtain ⟨f1, hf⟩ := fc_un (show (23 : Nat) < 100 from by decide) hf
  have f1 : (-1) * v_iv (n_v vs 4) + (16709 * v_iv (n_v vs 1) + (539 * v_iv (n_v vs 3) + 0)) ≤ 0 := f1
  obtain ⟨ta1, w1, le1, ⟨_, s1⟩, hf⟩ := fc_us (show ¬ (101 : Nat) < 100 from by decide) hf
  have s1 : (∀ b j, w_el ws b j = w_el w1 b j) ∧ ∀ b j, w_fd ws b j = if b = v_ad (n_v vs 0) ∧ j = 5 then n_v vs 4 else w_fd w1 b j := s1
  obtain ⟨f3, hf⟩ := fc_un (show (23 : Nat) < 100 from by decide) hf
  have f3 : 1 * v_iv (n_v vs 4) + ((-16709) * v_iv (n_v vs 1) + ((-539) * v_iv (n_v vs 3) + 0)) ≤ 0 := f3
  obtain ⟨f4, hf⟩ := fc_un (show (23 : Nat) < 100 from by decide) hf
  have f4 : (-1) * v_iv (n_v vs 4) + (16709 * v_iv (n_v vs 1) + (539 * v_iv (n_v vs 3) + 0)) ≤ 0 := f4
  obtain ⟨f5, hf⟩ := fc_un (show (10 : Nat) < 100 from by decide) hf
  have f5 : v_iv (n_v vs 3) = w_el w1 (v_ad (n_v vs 2)) (v_iv (n_v vs 1)).toNat := f5
  obtain ⟨f6, hf⟩ := fc_un (show (9 : Nat) < 100 from by decide) hf
  have f6 : n_v vs 2 = w_fd w1 (v_ad (n_v vs 0)) 3 := f6
  have ar_0_3_1 : w_ar w1 (n_v vs 0) 3 = w_ar ws (n_v vs 0) 3 := by show v_ad (w_fd w1 _ _) = v_ad (w_fd ws _ _); rw [s1.2, if_neg (fun e => absurd e.2 (by decide))]
  have cr_0_3 : ta (w_ar ws (n_v vs 0) 3) = some 153 := tv_rg (th_fd hD hth r0 (g := GG_150) rfl (k := 3) (t := (2, 0, 0, [153])) rfl rfl)
  have ad_2 : v_ad (n_v vs 2) = w_ar ws (n_v vs 0) 3 := (congrArg v_ad f6).trans ar_0_3_1
  rw [ad_2] at f5
  have h5 : v_iv (n_v vs 3) = w_ei w1 (w_ar ws (n_v vs 0) 3) (v_iv (n_v vs 1)) := f5
  have fe_0_5_1 : w_fi ws (n_v vs 0) 5 = v_iv (n_v vs 4) := by show v_iv (w_fd _ _ _) = _; rw [s1.2, if_pos ⟨rfl, rfl⟩]
  have ee_0_3_1_1 : w_el ws (w_ar ws (n_v vs 0) 3) (v_iv (n_v vs 1)).toNat = w_el w1 (w_ar ws (n_v vs 0) 3) (v_iv (n_v vs 1)).toNat := s1.1 _ _
  have br_0_3_1_0 : w_ei ws (w_ar ws (n_v vs 0) 3) (v_iv (n_v vs 1)) = w_el ws (w_ar ws (n_v vs 0) 3) (v_iv (n_v vs 1)).toNat := rfl
  have br_0_3_1_1 : w_ei w1 (w_ar ws (n_v vs 0) 3) (v_iv (n_v vs 1)) = w_el w1 (w_ar ws (n_v vs 0) 3) (v_iv (n_v vs 1)).toNat := rfl
  have hE_0_3_1 : ∀ j : Int, w_ei ws (w_ar ws (n_v vs 0) 3) j = w_ei w1 (w_ar ws (n_v vs 0) 3) j := fun j => s1.1 _ _
  have hK_0_3 : ∀ j : Int, 0 ≤ j → j < 4 → 0 ≤ w_ei ws (w_ar ws (n_v vs 0) 3) j ∧ w_ei ws (w_ar ws (n_v vs 0) 3) j ≤ 30 := fun j h0 h1 => th_el hD hth cr_0_3 (kd := 0) (n := 4) (m := 4) (lo := 0) (hi := 30) (rs := []) (L := []) rfl (by decide) (j := j.toNat) (by omega)
  have nf0 : fc_1 (20, [0, 1], [50, 1, 1, 5, 3, 1, 3, 2, 0, 5, 4, 6, 6, 2, 0, 16709, 1, 1, 6, 2, 0, 539, 3, 0, 3, 1, 1]) ws (vs) := by
    refine ⟨fun n hn => ?_, ?_⟩
    · have hn : n ∈ [0, 1] := hn
      rw [hl]
      simp only [List.mem_cons, List.not_mem_nil, or_false] at hn
      show n < 5; omega
    · show w_fi ws (n_v vs 0) 5 = ((16709 * v_iv (n_v vs 1)) + (539 * w_ei ws (w_ar ws (n_v vs 0) 3) (v_iv (n_v vs 1))))
      first | omega | grind
  refine ⟨(fun _ h => (by cases h)), [], trivial, ?_, (fun _ h => (by cases h))⟩
  rw [List.append_nil]
  exact List.forall_mem_cons.mpr ⟨⟨show (20 : Nat) < 100 from by decide, nf0⟩, (fun _ h => (by cases h))⟩
def n_Mo_take_an : List an_T := []
def t_Mo_take_ct : ct_L := [(0, 372, e_Mo_rowOf)]
set_option maxRecDepth 100000 in
theorem c_Mo_take {l : Launch} {D : va_G} {kA : Nat → ClassId} (h_Mo_rowOf : ct_ok l D kA GG y_Mo_rowOf z_Mo_rowOf e_Mo_rowOf) : ct_ok l D kA GG y_Mo_take z_Mo_take e_Mo_take := chk_all_ok (FT := [(20, 13, 3)]) (PT := [(391, 13, 5, .int)]) (CT := t_Mo_take_ct) (KT := []) (NT := []) (AN := n_Mo_take_an) (OT := [o_Mo_take_0]) 0 200 (List.forall_mem_cons.mpr ⟨oo_Mo_take_0, List.forall_mem_nil _⟩) (by decide +kernel) ⟨List.forall_mem_cons.mpr ⟨gf_Mo_20, List.forall_mem_nil _⟩, List.forall_mem_cons.mpr ⟨pf_Mo_391, List.forall_mem_nil _⟩, List.forall_mem_cons.mpr ⟨cl_static (y := y_Mo_rowOf) h_Mo_rowOf wm_2420 wm_9 wm_2418 wm_2419 ⟨by decide, by decide, by decide +kernel⟩ (by decide), List.forall_mem_nil _⟩, List.forall_mem_nil _, List.forall_mem_nil _, GG_pl⟩ (by decide +kernel)
