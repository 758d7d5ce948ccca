def o_Mo_met_30 : or_T := (121, 14, [(0, (2, 0, 0, [150])), (1, (0, 0, 7, [])), (2, (0, 0, 23, [])), (3, (0, 0, 2000, [])), (4, (0, 0, 2000, [])), (6, (0, 1, 1, [])), (7, (0, 0, 23, [])), (12, (0, 1, 5, [])), (13, (0, -1, -1, []))], [(8, [12], [4]), (9, [12, 0], [8]), (20, [0, 0], [30, 0, 1, 1, 15, -1, 1, 11]), (20, [0], [50, 3, 0, 12, 11, 15, 2, 21, 4, 7, 1, 3, 2, 0, 12, 0, 1, 0, 3, 2, 0, 11, 4, 3, 2, 0, 15, 0, 8, 3, 7, 1, 3, 2, 0, 12, 0, 0, 0, 7, 4, 3, 2, 0, 15, 0, 1, 2, 0, 11]), (20, [3, 0], [30, 0, 1, 0, 0, -1, 1, 11]), (20, [0, 4], [50, 2, 0, 12, 11, 3, 7, 1, 3, 2, 0, 12, 0, 0, 0, 6, 4, 2, 1, 1, 0, 1, 2, 0, 11]), (20, [1, 0], [50, 1, 1, 1005, 1002, 0, 6, 4, 2, 1, 0, 0, 1, 3, 1, 2, 4, 3, 2, 1, 5, 0, 2]), (20, [6, 0], [50, 1, 0, 1012, 4, 6, 1, 2, 1, 0, 0, 1, 1, 3, 2, 1, 12, 0, 1]), (20, [0], [30, -1, -1, 1, 8]), (102, [11], [0, 13008, 13009]), (7, [7, 2], [1]), (8, [2], [3]), (8, [7], [3]), (8, [6], [1])], [], [], [(20, [0, 3], [50, 3, 0, 8, 12, 11, 3, 7, 0, 2, 0, 1, 2, 0, 8, 3, 7, 1, 3, 2, 0, 12, 0, 0, 0, 6, 4, 2, 1, 1, 0, 1, 2, 0, 11]), (20, [0, 4], [50, 2, 0, 8, 11, 3, 7, 0, 2, 0, 1, 2, 0, 8, 0, 6, 4, 2, 1, 1, 0, 1, 2, 0, 11]), (20, [0, 13], [31, 1, -1, -1, 1, 8, 0, -1, 0, 0]), (20, [0, 2], [50, 2, 1, 8, 5, 2, 3, 7, 0, 2, 0, 1, 2, 0, 8, 3, 6, 0, 2, 1, 1, 0, -1, 0, 10, 3, 0, 2, 4, 3, 2, 0, 5, 0, 1, 0, 47])], [], [])
theorem oo_Mo_met_30 {kA : Nat → ClassId} : or_ok kA GG o_Mo_met_30 := by
  intro A ta ws vs hD hth hl hk hds hf
  have hl : vs.length = 14 := hl
  have hk : ∀ q ∈ ([(0, (2, 0, 0, [150])), (1, (0, 0, 7, [])), (2, (0, 0, 23, [])), (3, (0, 0, 2000, [])), (4, (0, 0, 2000, [])), (6, (0, 1, 1, [])), (7, (0, 0, 23, [])), (12, (0, 1, 5, [])), (13, (0, -1, -1, []))] : List (Nat × tv_T)), tv_ok ta q.2 (n_v vs q.1) := hk
  obtain ⟨t0, hk⟩ := List.forall_mem_cons.mp hk
  have t0 : tv_ok ta (2, 0, 0, [150]) (n_v vs 0) := t0
  have r0 : ta (v_ad (n_v vs 0)) = some 150 := tv_rg t0
  obtain ⟨t1, hk⟩ := List.forall_mem_cons.mp hk
  have t1 : tv_ok ta (0, 0, 7, []) (n_v vs 1) := t1
  have k1 : 0 ≤ v_iv (n_v vs 1) ∧ v_iv (n_v vs 1) ≤ 7 := tv_rng t1
  obtain ⟨t2, hk⟩ := List.forall_mem_cons.mp hk
  have t2 : tv_ok ta (0, 0, 23, []) (n_v vs 2) := t2
  have k2 : 0 ≤ v_iv (n_v vs 2) ∧ v_iv (n_v vs 2) ≤ 23 := tv_rng t2
  obtain ⟨t3, hk⟩ := List.forall_mem_cons.mp hk
  have t3 : tv_ok ta (0, 0, 2000, []) (n_v vs 3) := t3
  have k3 : 0 ≤ v_iv (n_v vs 3) ∧ v_iv (n_v vs 3) ≤ 2000 := tv_rng t3
  obtain ⟨t4, hk⟩ := List.forall_mem_cons.mp hk
  have t4 : tv_ok ta (0, 0, 2000, []) (n_v vs 4) := t4
  have k4 : 0 ≤ v_iv (n_v vs 4) ∧ v_iv (n_v vs 4) ≤ 2000 := tv_rng t4
  obtain ⟨t6, hk⟩ := List.forall_mem_cons.mp hk
  have t6 : tv_ok ta (0, 1, 1, []) (n_v vs 6) := t6
  have k6 : 1 ≤ v_iv (n_v vs 6) ∧ v_iv (n_v vs 6) ≤ 1 := tv_rng t6
  obtain ⟨t7, hk⟩ := List.forall_mem_cons.mp hk
  have t7 : tv_ok ta (0, 0, 23, []) (n_v vs 7) := t7
  have k7 : 0 ≤ v_iv (n_v vs 7) ∧ v_iv (n_v vs 7) ≤ 23 := tv_rng t7
  obtain ⟨t12, hk⟩ := List.forall_mem_cons.mp hk
  have t12 : tv_ok ta (0, 1, 5, []) (n_v vs 12) := t12
  have k12 : 1 ≤ v_iv (n_v vs 12) ∧ v_iv (n_v vs 12) ≤ 5 := tv_rng t12
  obtain ⟨t13, hk⟩ := List.forall_mem_cons.mp hk
  have t13 : tv_ok ta (0, -1, -1, []) (n_v vs 13) := t13
  have k13 : (-1) ≤ v_iv (n_v vs 13) ∧ v_iv (n_v vs 13) ≤ (-1) := tv_rng t13
  have hf : fc_ok [(8, [12], [4]), (9, [12, 0], [8]), (20, [0, 0], [30, 0, 1, 1, 15, -1, 1, 11]), (20, [0], [50, 3, 0, 12, 11, 15, 2, 21, 4, 7, 1, 3, 2, 0, 12, 0, 1, 0, 3, 2, 0, 11, 4, 3, 2, 0, 15, 0, 8, 3, 7, 1, 3, 2, 0, 12, 0, 0, 0, 7, 4, 3, 2, 0, 15, 0, 1, 2, 0, 11]), (20, [3, 0], [30, 0, 1, 0, 0, -1, 1, 11]), (20, [0, 4], [50, 2, 0, 12, 11, 3, 7, 1, 3, 2, 0, 12, 0, 0, 0, 6, 4, 2, 1, 1, 0, 1, 2, 0, 11]), (20, [1, 0], [50, 1, 1, 1005, 1002, 0, 6, 4, 2, 1, 0, 0, 1, 3, 1, 2, 4, 3, 2, 1, 5, 0, 2]), (20, [6, 0], [50, 1, 0, 1012, 4, 6, 1, 2, 1, 0, 0, 1, 1, 3, 2, 1, 12, 0, 1]), (20, [0], [30, -1, -1, 1, 8]), (102, [11], [0, 13008, 13009]), (7, [7, 2], [1]), (8, [2], [3]), (8, [7], [3]), (8, [6], [1])] ta ws vs := hf
  obtain ⟨f0, hf⟩ := fc_un (show (8 : Nat) < 100 from by decide) hf
  have f0 : 0 < v_iv (n_v vs 12) := f0
  obtain ⟨f1, hf⟩ := fc_un (show (9 : Nat) < 100 from by decide) hf
  have f1 : n_v vs 12 = w_fd ws (v_ad (n_v vs 0)) 8 := f1
  obtain ⟨f2, hf⟩ := fc_un (show (20 : Nat) < 100 from by decide) hf
  have f2 : 1 * w_fi ws (n_v vs 0) 15 + ((-1) * w_fi ws (n_v vs 0) 11 + 0) ≤ 0 := f2
  obtain ⟨f3, hf⟩ := fc_un (show (20 : Nat) < 100 from by decide) hf
  have f3 : ((w_fi ws (n_v vs 0) 12 = 1) → (w_fi ws (n_v vs 0) 11 ≤ (w_fi ws (n_v vs 0) 15 + 8))) ∧ ((w_fi ws (n_v vs 0) 12 = 0) ∨ ((w_fi ws (n_v vs 0) 15 + 1) ≤ w_fi ws (n_v vs 0) 11)) := f3
  obtain ⟨f4, hf⟩ := fc_un (show (20 : Nat) < 100 from by decide) hf
  have f4 : 1 * v_iv (n_v vs 3) + ((-1) * w_fi ws (n_v vs 0) 11 + 0) ≤ 0 := f4
  obtain ⟨f5, hf⟩ := fc_un (show (20 : Nat) < 100 from by decide) hf
  have f5 : (w_fi ws (n_v vs 0) 12 = 0) ∨ ((v_iv (n_v vs 4) + 1) ≤ w_fi ws (n_v vs 0) 11) := f5
  obtain ⟨f6, hf⟩ := fc_un (show (20 : Nat) < 100 from by decide) hf
  have f6 : (v_iv (n_v vs 1) + 1) ≤ w_ei ws (w_ar ws (n_v vs 0) 2) ((w_fi ws (n_v vs 0) 5 + 2)) := f6
  obtain ⟨f7, hf⟩ := fc_un (show (20 : Nat) < 100 from by decide) hf
  have f7 : (v_iv (n_v vs 6) = 1) → (w_fi ws (n_v vs 0) 12 = 1) := f7
  obtain ⟨f8, hf⟩ := fc_un (show (20 : Nat) < 100 from by decide) hf
  have f8 : (-1) * w_fi ws (n_v vs 0) 8 + 0 ≤ (-1) := f8
  obtain ⟨ta1, w1, le1, ⟨_, s1⟩, hf⟩ := fc_us (show ¬ (102 : Nat) < 100 from by decide) hf
  obtain ⟨f10, hf⟩ := fc_un (show (7 : Nat) < 100 from by decide) hf
  have f10 : v_iv (n_v vs 7) ≠ v_iv (n_v vs 2) := f10
  obtain ⟨f11, hf⟩ := fc_un (show (8 : Nat) < 100 from by decide) hf
  have f11 : 0 ≤ v_iv (n_v vs 2) := f11
  obtain ⟨f12, hf⟩ := fc_un (show (8 : Nat) < 100 from by decide) hf
  have f12 : 0 ≤ v_iv (n_v vs 7) := f12
  obtain ⟨f13, hf⟩ := fc_un (show (8 : Nat) < 100 from by decide) hf
  have f13 : v_iv (n_v vs 6) ≠ 0 := f13
  have cr_0_2 : ta (w_ar ws (n_v vs 0) 2) = some 152 := tv_rg (th_fd hD hth r0 (g := GG_150) rfl (k := 2) (t := (2, 0, 0, [152])) rfl rfl)
  have g1 : v_iv (n_v vs 12) = w_fi ws (n_v vs 0) 8 := congrArg v_iv f1
  have kz_0_8 : 0 ≤ w_fi ws (n_v vs 0) 8 ∧ w_fi ws (n_v vs 0) 8 ≤ 5 := tv_rng (th_fd hD hth r0 (g := GG_150) rfl (k := 8) (t := (0, 0, 5, [])) rfl rfl)
  have kz_0_11 : 0 ≤ w_fi ws (n_v vs 0) 11 ∧ w_fi ws (n_v vs 0) 11 ≤ 2000 := tv_rng (th_fd hD hth r0 (g := GG_150) rfl (k := 11) (t := (0, 0, 2000, [])) rfl rfl)
  have kz_0_12 : 0 ≤ w_fi ws (n_v vs 0) 12 ∧ w_fi ws (n_v vs 0) 12 ≤ 4 := tv_rng (th_fd hD hth r0 (g := GG_150) rfl (k := 12) (t := (0, 0, 4, [])) rfl rfl)
  have kz_0_15 : 0 ≤ w_fi ws (n_v vs 0) 15 ∧ w_fi ws (n_v vs 0) 15 ≤ 2000 := tv_rng (th_fd hD hth r0 (g := GG_150) rfl (k := 15) (t := (0, 0, 2000, [])) rfl rfl)
  have nf0 : fc_1 (20, [0, 3], [50, 3, 0, 8, 12, 11, 3, 7, 0, 2, 0, 1, 2, 0, 8, 3, 7, 1, 3, 2, 0, 12, 0, 0, 0, 6, 4, 2, 1, 1, 0, 1, 2, 0, 11]) ws (vs) := by
    refine ⟨fun n hn => ?_, ?_⟩
    · have hn : n ∈ [0, 3] := hn
      rw [hl]
      simp only [List.mem_cons, List.not_mem_nil, or_false] at hn
      show n < 14; omega
    · show (1 ≤ w_fi ws (n_v vs 0) 8) ∨ ((w_fi ws (n_v vs 0) 12 = 0) ∨ ((v_iv (n_v vs 3) + 1) ≤ w_fi ws (n_v vs 0) 11))
      first | omega | grind
  have nf1 : fc_1 (20, [0, 4], [50, 2, 0, 8, 11, 3, 7, 0, 2, 0, 1, 2, 0, 8, 0, 6, 4, 2, 1, 1, 0, 1, 2, 0, 11]) ws (vs) := by
    refine ⟨fun n hn => ?_, ?_⟩
    · have hn : n ∈ [0, 4] := hn
      rw [hl]
      simp only [List.mem_cons, List.not_mem_nil, or_false] at hn
      show n < 14; omega
    · show (1 ≤ w_fi ws (n_v vs 0) 8) ∨ ((v_iv (n_v vs 4) + 1) ≤ w_fi ws (n_v vs 0) 11)
      first | omega | grind
  have nf2 : fc_1 (20, [0, 13], [31, 1, -1, -1, 1, 8, 0, -1, 0, 0]) ws (vs) := by
    refine ⟨fun n hn => ?_, ?_⟩
    · have hn : n ∈ [0, 13] := hn
      rw [hl]
      simp only [List.mem_cons, List.not_mem_nil, or_false] at hn
      show n < 14; omega
    · show ((-1) * w_fi ws (n_v vs 0) 8 + 0 ≤ (-1)) ∨ ((-1) * v_iv (n_v vs 13) + 0 ≤ 0)
      omega
  have nf3 : fc_1 (20, [0, 2], [50, 2, 1, 8, 5, 2, 3, 7, 0, 2, 0, 1, 2, 0, 8, 3, 6, 0, 2, 1, 1, 0, -1, 0, 10, 3, 0, 2, 4, 3, 2, 0, 5, 0, 1, 0, 47]) ws (vs) := by
    refine ⟨fun n hn => ?_, ?_⟩
    · have hn : n ∈ [0, 2] := hn
      rw [hl]
      simp only [List.mem_cons, List.not_mem_nil, or_false] at hn
      show n < 14; omega
    · show (1 ≤ w_fi ws (n_v vs 0) 8) ∨ ((v_iv (n_v vs 2) ≤ (-1)) ∨ (w_ei ws (w_ar ws (n_v vs 0) 2) ((w_fi ws (n_v vs 0) 5 + 1)) ≤ 47))
      first | omega | grind
  refine ⟨(fun _ h => (by cases h)), [], trivial, ?_, (fun _ h => (by cases h))⟩
  rw [List.append_nil]
  exact List.forall_mem_cons.mpr ⟨⟨show (20 : Nat) < 100 from by decide, nf0⟩, List.forall_mem_cons.mpr ⟨⟨show (20 : Nat) < 100 from by decide, nf1⟩, List.forall_mem_cons.mpr ⟨⟨show (20 : Nat) < 100 from by decide, nf2⟩, List.forall_mem_cons.mpr ⟨⟨show (20 : Nat) < 100 from by decide, nf3⟩, (fun _ h => (by cases h))⟩⟩⟩⟩
def o_Mo_met_31 : or_T := (26, 10, [(0, (2, 0, 0, [150])), (1, (0, 0, 7, [])), (2, (0, -1, 23, [])), (3, (0, 0, 2000, [])), (4, (0, 0, 2000, [])), (6, (0, 0, 0, [])), (9, (0, -1, -1, []))], [(20, [0, 0], [30, 0, 1, 1, 15, -1, 1, 11]), (20, [0], [50, 3, 0, 12, 11, 15, 2, 21, 4, 7, 1, 3, 2, 0, 12, 0, 1, 0, 3, 2, 0, 11, 4, 3, 2, 0, 15, 0, 8, 3, 7, 1, 3, 2, 0, 12, 0, 0, 0, 7, 4, 3, 2, 0, 15, 0, 1, 2, 0, 11]), (20, [3, 0], [30, 0, 1, 0, 0, -1, 1, 11]), (20, [0, 4], [50, 2, 0, 12, 11, 3, 7, 1, 3, 2, 0, 12, 0, 0, 0, 6, 4, 2, 1, 1, 0, 1, 2, 0, 11]), (20, [1, 0], [50, 1, 1, 1005, 1002, 0, 6, 4, 2, 1, 0, 0, 1, 3, 1, 2, 4, 3, 2, 1, 5, 0, 2]), (20, [6, 0], [50, 1, 0, 1012, 4, 6, 1, 2, 1, 0, 0, 1, 1, 3, 2, 1, 12, 0, 1]), (20, [0], [30, -1, -1, 1, 8]), (102, [8], [0, 13008, 13009]), (8, [6], [0])], [], [], [(20, [0, 3], [50, 3, 0, 8, 12, 11, 3, 7, 0, 2, 0, 1, 2, 0, 8, 3, 7, 1, 3, 2, 0, 12, 0, 0, 0, 6, 4, 2, 1, 1, 0, 1, 2, 0, 11]), (20, [0, 4], [50, 2, 0, 8, 11, 3, 7, 0, 2, 0, 1, 2, 0, 8, 0, 6, 4, 2, 1, 1, 0, 1, 2, 0, 11]), (20, [0, 9], [31, 1, -1, -1, 1, 8, 0, -1, 0, 0]), (20, [0, 2], [50, 2, 1, 8, 5, 2, 3, 7, 0, 2, 0, 1, 2, 0, 8, 3, 6, 0, 2, 1, 1, 0, -1, 0, 10, 3, 0, 2, 4, 3, 2, 0, 5, 0, 1, 0, 47])], [], [])
theorem oo_Mo_met_31 {kA : Nat → ClassId} : or_ok kA GG o_Mo_met_31 := by
  intro A ta ws vs hD hth hl hk hds hf
  have hl : vs.length = 10 := hl
  have hk : ∀ q ∈ ([(0, (2, 0, 0, [150])), (1, (0, 0, 7, [])), (2, (0, -1, 23, [])), (3, (0, 0, 2000, [])), (4, (0, 0, 2000, [])), (6, (0, 0, 0, [])), (9, (0, -1, -1, []))] : List (Nat × tv_T)), tv_ok ta q.2 (n_v vs q.1) := hk
  obtain ⟨t0, hk⟩ := List.forall_mem_cons.mp hk
  have t0 : tv_ok ta (2, 0, 0, [150]) (n_v vs 0) := t0
  have r0 : ta (v_ad (n_v vs 0)) = some 150 := tv_rg t0
  obtain ⟨t1, hk⟩ := List.forall_mem_cons.mp hk
  have t1 : tv_ok ta (0, 0, 7, []) (n_v vs 1) := t1
  have k1 : 0 ≤ v_iv (n_v vs 1) ∧ v_iv (n_v vs 1) ≤ 7 := tv_rng t1
  obtain ⟨t2, hk⟩ := List.forall_mem_cons.mp hk
  have t2 : tv_ok ta (0, -1, 23, []) (n_v vs 2) := t2
  have k2 : (-1) ≤ v_iv (n_v vs 2) ∧ v_iv (n_v vs 2) ≤ 23 := tv_rng t2
  obtain ⟨t3, hk⟩ := List.forall_mem_cons.mp hk
  have t3 : tv_ok ta (0, 0, 2000, []) (n_v vs 3) := t3
  have k3 : 0 ≤ v_iv (n_v vs 3) ∧ v_iv (n_v vs 3) ≤ 2000 := tv_rng t3
  obtain ⟨t4, hk⟩ := List.forall_mem_cons.mp hk
  have t4 : tv_ok ta (0, 0, 2000, []) (n_v vs 4) := t4
  have k4 : 0 ≤ v_iv (n_v vs 4) ∧ v_iv (n_v vs 4) ≤ 2000 := tv_rng t4
  obtain ⟨t6, hk⟩ := List.forall_mem_cons.mp hk
  have t6 : tv_ok ta (0, 0, 0, []) (n_v vs 6) := t6
  have k6 : 0 ≤ v_iv (n_v vs 6) ∧ v_iv (n_v vs 6) ≤ 0 := tv_rng t6
  obtain ⟨t9, hk⟩ := List.forall_mem_cons.mp hk
  have t9 : tv_ok ta (0, -1, -1, []) (n_v vs 9) := t9
  have k9 : (-1) ≤ v_iv (n_v vs 9) ∧ v_iv (n_v vs 9) ≤ (-1) := tv_rng t9
  have hf : fc_ok [(20, [0, 0], [30, 0, 1, 1, 15, -1, 1, 11]), (20, [0], [50, 3, 0, 12, 11, 15, 2, 21, 4, 7, 1, 3, 2, 0, 12, 0, 1, 0, 3, 2, 0, 11, 4, 3, 2, 0, 15, 0, 8, 3, 7, 1, 3, 2, 0, 12, 0, 0, 0, 7, 4, 3, 2, 0, 15, 0, 1, 2, 0, 11]), (20, [3, 0], [30, 0, 1, 0, 0, -1, 1, 11]), (20, [0, 4], [50, 2, 0, 12, 11, 3, 7, 1, 3, 2, 0, 12, 0, 0, 0, 6, 4, 2, 1, 1, 0, 1, 2, 0, 11]), (20, [1, 0], [50, 1, 1, 1005, 1002, 0, 6, 4, 2, 1, 0, 0, 1, 3, 1, 2, 4, 3, 2, 1, 5, 0, 2]), (20, [6, 0], [50, 1, 0, 1012, 4, 6, 1, 2, 1, 0, 0, 1, 1, 3, 2, 1, 12, 0, 1]), (20, [0], [30, -1, -1, 1, 8]), (102, [8], [0, 13008, 13009]), (8, [6], [0])] ta ws vs := hf
  obtain ⟨f0, hf⟩ := fc_un (show (20 : Nat) < 100 from by decide) hf
  have f0 : 1 * w_fi ws (n_v vs 0) 15 + ((-1) * w_fi ws (n_v vs 0) 11 + 0) ≤ 0 := f0
  obtain ⟨f1, hf⟩ := fc_un (show (20 : Nat) < 100 from by decide) hf
  have f1 : ((w_fi ws (n_v vs 0) 12 = 1) → (w_fi ws (n_v vs 0) 11 ≤ (w_fi ws (n_v vs 0) 15 + 8))) ∧ ((w_fi ws (n_v vs 0) 12 = 0) ∨ ((w_fi ws (n_v vs 0) 15 + 1) ≤ w_fi ws (n_v vs 0) 11)) := f1
  obtain ⟨f2, hf⟩ := fc_un (show (20 : Nat) < 100 from by decide) hf
  have f2 : 1 * v_iv (n_v vs 3) + ((-1) * w_fi ws (n_v vs 0) 11 + 0) ≤ 0 := f2
  obtain ⟨f3, hf⟩ := fc_un (show (20 : Nat) < 100 from by decide) hf
  have f3 : (w_fi ws (n_v vs 0) 12 = 0) ∨ ((v_iv (n_v vs 4) + 1) ≤ w_fi ws (n_v vs 0) 11) := f3
  obtain ⟨f4, hf⟩ := fc_un (show (20 : Nat) < 100 from by decide) hf
  have f4 : (v_iv (n_v vs 1) + 1) ≤ w_ei ws (w_ar ws (n_v vs 0) 2) ((w_fi ws (n_v vs 0) 5 + 2)) := f4
  obtain ⟨f5, hf⟩ := fc_un (show (20 : Nat) < 100 from by decide) hf
  have f5 : (v_iv (n_v vs 6) = 1) → (w_fi ws (n_v vs 0) 12 = 1) := f5
  obtain ⟨f6, hf⟩ := fc_un (show (20 : Nat) < 100 from by decide) hf
  have f6 : (-1) * w_fi ws (n_v vs 0) 8 + 0 ≤ (-1) := f6
  obtain ⟨ta1, w1, le1, ⟨_, s1⟩, hf⟩ := fc_us (show ¬ (102 : Nat) < 100 from by decide) hf
  obtain ⟨f8, hf⟩ := fc_un (show (8 : Nat) < 100 from by decide) hf
  have f8 : v_iv (n_v vs 6) = 0 := f8
  have cr_0_2 : ta (w_ar ws (n_v vs 0) 2) = some 152 := tv_rg (th_fd hD hth r0 (g := GG_150) rfl (k := 2) (t := (2, 0, 0, [152])) rfl rfl)
  have kz_0_8 : 0 ≤ w_fi ws (n_v vs 0) 8 ∧ w_fi ws (n_v vs 0) 8 ≤ 5 := tv_rng (th_fd hD hth r0 (g := GG_150) rfl (k := 8) (t := (0, 0, 5, [])) rfl rfl)
  have kz_0_11 : 0 ≤ w_fi ws (n_v vs 0) 11 ∧ w_fi ws (n_v vs 0) 11 ≤ 2000 := tv_rng (th_fd hD hth r0 (g := GG_150) rfl (k := 11) (t := (0, 0, 2000, [])) rfl rfl)
  have kz_0_12 : 0 ≤ w_fi ws (n_v vs 0) 12 ∧ w_fi ws (n_v vs 0) 12 ≤ 4 := tv_rng (th_fd hD hth r0 (g := GG_150) rfl (k := 12) (t := (0, 0, 4, [])) rfl rfl)
  have kz_0_15 : 0 ≤ w_fi ws (n_v vs 0) 15 ∧ w_fi ws (n_v vs 0) 15 ≤ 2000 := tv_rng (th_fd hD hth r0 (g := GG_150) rfl (k := 15) (t := (0, 0, 2000, [])) rfl rfl)
  have nf0 : fc_1 (20, [0, 3], [50, 3, 0, 8, 12, 11, 3, 7, 0, 2, 0, 1, 2, 0, 8, 3, 7, 1, 3, 2, 0, 12, 0, 0, 0, 6, 4, 2, 1, 1, 0, 1, 2, 0, 11]) ws (vs) := by
    refine ⟨fun n hn => ?_, ?_⟩
    · have hn : n ∈ [0, 3] := hn
      rw [hl]
      simp only [List.mem_cons, List.not_mem_nil, or_false] at hn
      show n < 10; omega
    · show (1 ≤ w_fi ws (n_v vs 0) 8) ∨ ((w_fi ws (n_v vs 0) 12 = 0) ∨ ((v_iv (n_v vs 3) + 1) ≤ w_fi ws (n_v vs 0) 11))
      first | omega | grind
  have nf1 : fc_1 (20, [0, 4], [50, 2, 0, 8, 11, 3, 7, 0, 2, 0, 1, 2, 0, 8, 0, 6, 4, 2, 1, 1, 0, 1, 2, 0, 11]) ws (vs) := by
    refine ⟨fun n hn => ?_, ?_⟩
    · have hn : n ∈ [0, 4] := hn
      rw [hl]
      simp only [List.mem_cons, List.not_mem_nil, or_false] at hn
      show n < 10; omega
    · show (1 ≤ w_fi ws (n_v vs 0) 8) ∨ ((v_iv (n_v vs 4) + 1) ≤ w_fi ws (n_v vs 0) 11)
      first | omega | grind
  have nf2 : fc_1 (20, [0, 9], [31, 1, -1, -1, 1, 8, 0, -1, 0, 0]) ws (vs) := by
    refine ⟨fun n hn => ?_, ?_⟩
    · have hn : n ∈ [0, 9] := hn
      rw [hl]
      simp only [List.mem_cons, List.not_mem_nil, or_false] at hn
      show n < 10; omega
    · show ((-1) * w_fi ws (n_v vs 0) 8 + 0 ≤ (-1)) ∨ ((-1) * v_iv (n_v vs 9) + 0 ≤ 0)
      omega
  have nf3 : fc_1 (20, [0, 2], [50, 2, 1, 8, 5, 2, 3, 7, 0, 2, 0, 1, 2, 0, 8, 3, 6, 0, 2, 1, 1, 0, -1, 0, 10, 3, 0, 2, 4, 3, 2, 0, 5, 0, 1, 0, 47]) ws (vs) := by
    refine ⟨fun n hn => ?_, ?_⟩
    · have hn : n ∈ [0, 2] := hn
      rw [hl]
      simp only [List.mem_cons, List.not_mem_nil, or_false] at hn
      show n < 10; omega
    · show (1 ≤ w_fi ws (n_v vs 0) 8) ∨ ((v_iv (n_v vs 2) ≤ (-1)) ∨ (w_ei ws (w_ar ws (n_v vs 0) 2) ((w_fi ws (n_v vs 0) 5 + 1)) ≤ 47))
      first | omega | grind
  refine ⟨(fun _ h => (by cases h)), [], trivial, ?_, (fun _ h => (by cases h))⟩
  rw [List.append_nil]
  exact List.forall_mem_cons.mpr ⟨⟨show (20 : Nat) < 100 from by decide, nf0⟩, List.forall_mem_cons.mpr ⟨⟨show (20 : Nat) < 100 from by decide, nf1⟩, List.forall_mem_cons.mpr ⟨⟨show (20 : Nat) < 100 from by decide, nf2⟩, List.forall_mem_cons.mpr ⟨⟨show (20 : Nat) < 100 from by decide, nf3⟩, (fun _ h => (by cases h))⟩⟩⟩⟩
def o_Mo_met_32 : or_T := (8, 7, [(0, (2, 0, 0, [150])), (1, (0, 0, 7, [])), (2, (0, -1, 23, [])), (3, (0, 0, 2000, [])), (4, (0, 0, 2000, [])), (5, (0, 1, 5, [])), (6, (0, -1, -1, []))], [(8, [5], [4]), (9, [5, 0], [8]), (20, [0, 0], [30, 0, 1, 1, 15, -1, 1, 11]), (20, [0], [50, 3, 0, 12, 11, 15, 2, 21, 4, 7, 1, 3, 2, 0, 12, 0, 1, 0, 3, 2, 0, 11, 4, 3, 2, 0, 15, 0, 8, 3, 7, 1, 3, 2, 0, 12, 0, 0, 0, 7, 4, 3, 2, 0, 15, 0, 1, 2, 0, 11]), (20, [3, 0], [30, 0, 1, 0, 0, -1, 1, 11]), (20, [0, 4], [50, 2, 0, 12, 11, 3, 7, 1, 3, 2, 0, 12, 0, 0, 0, 6, 4, 2, 1, 1, 0, 1, 2, 0, 11]), (20, [1, 0], [50, 1, 1, 1005, 1002, 0, 6, 4, 2, 1, 0, 0, 1, 3, 1, 2, 4, 3, 2, 1, 5, 0, 2])], [], [], [(20, [0, 3], [50, 3, 0, 8, 12, 11, 3, 7, 0, 2, 0, 1, 2, 0, 8, 3, 7, 1, 3, 2, 0, 12, 0, 0, 0, 6, 4, 2, 1, 1, 0, 1, 2, 0, 11]), (20, [0, 4], [50, 2, 0, 8, 11, 3, 7, 0, 2, 0, 1, 2, 0, 8, 0, 6, 4, 2, 1, 1, 0, 1, 2, 0, 11]), (20, [0, 6], [31, 1, -1, -1, 1, 8, 0, -1, 0, 0]), (20, [0, 2], [50, 2, 1, 8, 5, 2, 3, 7, 0, 2, 0, 1, 2, 0, 8, 3, 6, 0, 2, 1, 1, 0, -1, 0, 10, 3, 0, 2, 4, 3, 2, 0, 5, 0, 1, 0, 47])], [], [])
theorem oo_Mo_met_32 {kA : Nat → ClassId} : or_ok kA GG o_Mo_met_32 := by
  intro A ta ws vs hD hth hl hk hds hf
  have hl : vs.length = 7 := hl
  have hk : ∀ q ∈ ([(0, (2, 0, 0, [150])), (1, (0, 0, 7, [])), (2, (0, -1, 23, [])), (3, (0, 0, 2000, [])), (4, (0, 0, 2000, [])), (5, (0, 1, 5, [])), (6, (0, -1, -1, []))] : List (Nat × tv_T)), tv_ok ta q.2 (n_v vs q.1) := hk
  obtain ⟨t0, hk⟩ := List.forall_mem_cons.mp hk
  have t0 : tv_ok ta (2, 0, 0, [150]) (n_v vs 0) := t0
  have r0 : ta (v_ad (n_v vs 0)) = some 150 := tv_rg t0
  obtain ⟨t1, hk⟩ := List.forall_mem_cons.mp hk
  have t1 : tv_ok ta (0, 0, 7, []) (n_v vs 1) := t1
  have k1 : 0 ≤ v_iv (n_v vs 1) ∧ v_iv (n_v vs 1) ≤ 7 := tv_rng t1
  obtain ⟨t2, hk⟩ := List.forall_mem_cons.mp hk
  have t2 : tv_ok ta (0, -1, 23, []) (n_v vs 2) := t2
  have k2 : (-1) ≤ v_iv (n_v vs 2) ∧ v_iv (n_v vs 2) ≤ 23 := tv_rng t2
  obtain ⟨t3, hk⟩ := List.forall_mem_cons.mp hk
  have t3 : tv_ok ta (0, 0, 2000, []) (n_v vs 3) := t3
  have k3 : 0 ≤ v_iv (n_v vs 3) ∧ v_iv (n_v vs 3) ≤ 2000 := tv_rng t3
  obtain ⟨t4, hk⟩ := List.forall_mem_cons.mp hk
  have t4 : tv_ok ta (0, 0, 2000, []) (n_v vs 4) := t4
  have k4 : 0 ≤ v_iv (n_v vs 4) ∧ v_iv (n_v vs 4) ≤ 2000 := tv_rng t4
  obtain ⟨t5, hk⟩ := List.forall_mem_cons.mp hk
  have t5 : tv_ok ta (0, 1, 5, []) (n_v vs 5) := t5
  have k5 : 1 ≤ v_iv (n_v vs 5) ∧ v_iv (n_v vs 5) ≤ 5 := tv_rng t5
  obtain ⟨t6, hk⟩ := List.forall_mem_cons.mp hk
  have t6 : tv_ok ta (0, -1, -1, []) (n_v vs 6) := t6
  have k6 : (-1) ≤ v_iv (n_v vs 6) ∧ v_iv (n_v vs 6) ≤ (-1) := tv_rng t6
  have hf : fc_ok [(8, [5], [4]), (9, [5, 0], [8]), (20, [0, 0], [30, 0, 1, 1, 15, -1, 1, 11]), (20, [0], [50, 3, 0, 12, 11, 15, 2, 21, 4, 7, 1, 3, 2, 0, 12, 0, 1, 0, 3, 2, 0, 11, 4, 3, 2, 0, 15, 0, 8, 3, 7, 1, 3, 2, 0, 12, 0, 0, 0, 7, 4, 3, 2, 0, 15, 0, 1, 2, 0, 11]), (20, [3, 0], [30, 0, 1, 0, 0, -1, 1, 11]), (20, [0, 4], [50, 2, 0, 12, 11, 3, 7, 1, 3, 2, 0, 12, 0, 0, 0, 6, 4, 2, 1, 1, 0, 1, 2, 0, 11]), (20, [1, 0], [50, 1, 1, 1005, 1002, 0, 6, 4, 2, 1, 0, 0, 1, 3, 1, 2, 4, 3, 2, 1, 5, 0, 2])] ta ws vs := hf
  obtain ⟨f0, hf⟩ := fc_un (show (8 : Nat) < 100 from by decide) hf
  have f0 : 0 < v_iv (n_v vs 5) := f0
  obtain ⟨f1, hf⟩ := fc_un (show (9 : Nat) < 100 from by decide) hf
  have f1 : n_v vs 5 = w_fd ws (v_ad (n_v vs 0)) 8 := f1
  obtain ⟨f2, hf⟩ := fc_un (show (20 : Nat) < 100 from by decide) hf
  have f2 : 1 * w_fi ws (n_v vs 0) 15 + ((-1) * w_fi ws (n_v vs 0) 11 + 0) ≤ 0 := f2
  obtain ⟨f3, hf⟩ := fc_un (show (20 : Nat) < 100 from by decide) hf
  have f3 : ((w_fi ws (n_v vs 0) 12 = 1) → (w_fi ws (n_v vs 0) 11 ≤ (w_fi ws (n_v vs 0) 15 + 8))) ∧ ((w_fi ws (n_v vs 0) 12 = 0) ∨ ((w_fi ws (n_v vs 0) 15 + 1) ≤ w_fi ws (n_v vs 0) 11)) := f3
  obtain ⟨f4, hf⟩ := fc_un (show (20 : Nat) < 100 from by decide) hf
  have f4 : 1 * v_iv (n_v vs 3) + ((-1) * w_fi ws (n_v vs 0) 11 + 0) ≤ 0 := f4
  obtain ⟨f5, hf⟩ := fc_un (show (20 : Nat) < 100 from by decide) hf
  have f5 : (w_fi ws (n_v vs 0) 12 = 0) ∨ ((v_iv (n_v vs 4) + 1) ≤ w_fi ws (n_v vs 0) 11) := f5
  obtain ⟨f6, hf⟩ := fc_un (show (20 : Nat) < 100 from by decide) hf
  have f6 : (v_iv (n_v vs 1) + 1) ≤ w_ei ws (w_ar ws (n_v vs 0) 2) ((w_fi ws (n_v vs 0) 5 + 2)) := f6
  have cr_0_2 : ta (w_ar ws (n_v vs 0) 2) = some 152 := tv_rg (th_fd hD hth r0 (g := GG_150) rfl (k := 2) (t := (2, 0, 0, [152])) rfl rfl)
  have g1 : v_iv (n_v vs 5) = w_fi ws (n_v vs 0) 8 := congrArg v_iv f1
  have kz_0_8 : 0 ≤ w_fi ws (n_v vs 0) 8 ∧ w_fi ws (n_v vs 0) 8 ≤ 5 := tv_rng (th_fd hD hth r0 (g := GG_150) rfl (k := 8) (t := (0, 0, 5, [])) rfl rfl)
  have kz_0_11 : 0 ≤ w_fi ws (n_v vs 0) 11 ∧ w_fi ws (n_v vs 0) 11 ≤ 2000 := tv_rng (th_fd hD hth r0 (g := GG_150) rfl (k := 11) (t := (0, 0, 2000, [])) rfl rfl)
  have kz_0_12 : 0 ≤ w_fi ws (n_v vs 0) 12 ∧ w_fi ws (n_v vs 0) 12 ≤ 4 := tv_rng (th_fd hD hth r0 (g := GG_150) rfl (k := 12) (t := (0, 0, 4, [])) rfl rfl)
  have kz_0_15 : 0 ≤ w_fi ws (n_v vs 0) 15 ∧ w_fi ws (n_v vs 0) 15 ≤ 2000 := tv_rng (th_fd hD hth r0 (g := GG_150) rfl (k := 15) (t := (0, 0, 2000, [])) rfl rfl)
  have nf0 : fc_1 (20, [0, 3], [50, 3, 0, 8, 12, 11, 3, 7, 0, 2, 0, 1, 2, 0, 8, 3, 7, 1, 3, 2, 0, 12, 0, 0, 0, 6, 4, 2, 1, 1, 0, 1, 2, 0, 11]) ws (vs) := by
    refine ⟨fun n hn => ?_, ?_⟩
    · have hn : n ∈ [0, 3] := hn
      rw [hl]
      simp only [List.mem_cons, List.not_mem_nil, or_false] at hn
      show n < 7; omega
    · show (1 ≤ w_fi ws (n_v vs 0) 8) ∨ ((w_fi ws (n_v vs 0) 12 = 0) ∨ ((v_iv (n_v vs 3) + 1) ≤ w_fi ws (n_v vs 0) 11))
      first | omega | grind
  have nf1 : fc_1 (20, [0, 4], [50, 2, 0, 8, 11, 3, 7, 0, 2, 0, 1, 2, 0, 8, 0, 6, 4, 2, 1, 1, 0, 1, 2, 0, 11]) ws (vs) := by
    refine ⟨fun n hn => ?_, ?_⟩
    · have hn : n ∈ [0, 4] := hn
      rw [hl]
      simp only [List.mem_cons, List.not_mem_nil, or_false] at hn
      show n < 7; omega
    · show (1 ≤ w_fi ws (n_v vs 0) 8) ∨ ((v_iv (n_v vs 4) + 1) ≤ w_fi ws (n_v vs 0) 11)
      first | omega | grind
  have nf2 : fc_1 (20, [0, 6], [31, 1, -1, -1, 1, 8, 0, -1, 0, 0]) ws (vs) := by
    refine ⟨fun n hn => ?_, ?_⟩
    · have hn : n ∈ [0, 6] := hn
      rw [hl]
      simp only [List.mem_cons, List.not_mem_nil, or_false] at hn
      show n < 7; omega
    · show ((-1) * w_fi ws (n_v vs 0) 8 + 0 ≤ (-1)) ∨ ((-1) * v_iv (n_v vs 6) + 0 ≤ 0)
      omega
  have nf3 : fc_1 (20, [0, 2], [50, 2, 1, 8, 5, 2, 3, 7, 0, 2, 0, 1, 2, 0, 8, 3, 6, 0, 2, 1, 1, 0, -1, 0, 10, 3, 0, 2, 4, 3, 2, 0, 5, 0, 1, 0, 47]) ws (vs) := by
    refine ⟨fun n hn => ?_, ?_⟩
    · have hn : n ∈ [0, 2] := hn
      rw [hl]
      simp only [List.mem_cons, List.not_mem_nil, or_false] at hn
      show n < 7; omega
    · show (1 ≤ w_fi ws (n_v vs 0) 8) ∨ ((v_iv (n_v vs 2) ≤ (-1)) ∨ (w_ei ws (w_ar ws (n_v vs 0) 2) ((w_fi ws (n_v vs 0) 5 + 1)) ≤ 47))
      first | omega | grind
  refine ⟨(fun _ h => (by cases h)), [], trivial, ?_, (fun _ h => (by cases h))⟩
  rw [List.append_nil]
  exact List.forall_mem_cons.mpr ⟨⟨show (20 : Nat) < 100 from by decide, nf0⟩, List.forall_mem_cons.mpr ⟨⟨show (20 : Nat) < 100 from by decide, nf1⟩, List.forall_mem_cons.mpr ⟨⟨show (20 : Nat) < 100 from by decide, nf2⟩, List.forall_mem_cons.mpr ⟨⟨show (20 : Nat) < 100 from by decide, nf3⟩, (fun _ h => (by cases h))⟩⟩⟩⟩
def o_Mo_met_33 : or_T := (254, 23, [(0, (2, 0, 0, [150])), (1, (0, 0, 7, [])), (2, (0, -1, 23, [])), (3, (0, 0, 2000, [])), (4, (0, 0, 2000, [])), (5, (2, 0, 0, [150])), (6, (0, 0, 7, [])), (7, (0, -1, 23, [])), (8, (0, 0, 23, [])), (10, (0, 0, 8, [])), (11, (0, 0, 2000, [])), (12, (0, 0, 2000, [])), (13, (0, -2000, 8, [])), (14, (2, 0, 0, [152])), (15, (0, 0, 66297, [])), (16, (0, 219, 219, [])), (17, (0, 219, 66516, [])), (18, (0, 219, 66539, [])), (19, (0, 1, 1, [])), (20, (0, 243, 243, [])), (21, (0, 243, 66540, [])), (22, (0, 243, 66563, []))], [(20, [5, 5], [30, 0, 1, 1, 15, -1, 1, 11]), (20, [5], [50, 3, 0, 12, 11, 15, 2, 21, 4, 7, 1, 3, 2, 0, 12, 0, 1, 0, 3, 2, 0, 11, 4, 3, 2, 0, 15, 0, 8, 3, 7, 1, 3, 2, 0, 12, 0, 0, 0, 7, 4, 3, 2, 0, 15, 0, 1, 2, 0, 11]), (20, [3, 5], [30, 0, 1, 0, 0, -1, 1, 11]), (20, [4, 5], [30, -1, 1, 0, 0, -1, 1, 11]), (20, [5], [50, 1, 0, 12, 1, 3, 2, 0, 12, 0, 1]), (24, [0, 5], []), (24, [1, 6], []), (24, [2, 7], []), (100, [14, 22, 6], []), (1, [22, 21, 8], []), (1, [21, 15, 20], []), (9, [15, 5], [5]), (9, [14, 5], [2]), (20, [5, 5], [30, 0, 1, 1, 15, -1, 1, 11]), (20, [5], [50, 3, 0, 12, 11, 15, 2, 21, 4, 7, 1, 3, 2, 0, 12, 0, 1, 0, 3, 2, 0, 11, 4, 3, 2, 0, 15, 0, 8, 3, 7, 1, 3, 2, 0, 12, 0, 0, 0, 7, 4, 3, 2, 0, 15, 0, 1, 2, 0, 11]), (20, [3, 5], [30, 0, 1, 0, 0, -1, 1, 11]), (20, [4, 5], [30, -1, 1, 0, 0, -1, 1, 11]), (20, [5], [50, 1, 0, 12, 1, 3, 2, 0, 12, 0, 1]), (100, [14, 18, 19], []), (1, [18, 17, 8], []), (1, [17, 15, 16], []), (7, [10, 13], [3]), (2, [13, 11, 12], []), (9, [12, 5], [15]), (9, [11, 5], [11]), (20, [5, 5], [30, 0, 1, 1, 15, -1, 1, 11]), (20, [5], [50, 3, 0, 12, 11, 15, 2, 21, 4, 7, 1, 3, 2, 0, 12, 0, 1, 0, 3, 2, 0, 11, 4, 3, 2, 0, 15, 0, 8, 3, 7, 1, 3, 2, 0, 12, 0, 0, 0, 7, 4, 3, 2, 0, 15, 0, 1, 2, 0, 11]), (20, [3, 5], [30, 0, 1, 0, 0, -1, 1, 11]), (20, [4, 5], [30, -1, 1, 0, 0, -1, 1, 11]), (20, [5], [50, 1, 0, 12, 1, 3, 2, 0, 12, 0, 1]), (20, [7, 5], [50, 1, 1, 1005, 1002, 3, 6, 0, 2, 1, 0, 0, -1, 0, 10, 3, 1, 2, 4, 3, 2, 1, 5, 0, 1, 0, 47]), (20, [6, 5], [50, 1, 1, 1005, 1002, 0, 6, 4, 2, 1, 0, 0, 1, 3, 1, 2, 4, 3, 2, 1, 5, 0, 2])], [], [(0, 0, 2000, [])], [(20, [7, 5], [50, 1, 1, 1005, 1002, 3, 6, 0, 2, 1, 0, 0, -1, 0, 10, 3, 1, 2, 4, 3, 2, 1, 5, 0, 1, 0, 47]), (20, [6, 5], [50, 1, 1, 1005, 1002, 0, 6, 4, 2, 1, 0, 0, 1, 3, 1, 2, 4, 3, 2, 1, 5, 0, 2]), (20, [23, 5], [30, 0, 1, 0, 0, -1, 1, 11]), (23, [3, 23], [0, 1, -1]), (23, [4, 23], [-1, 1, -1])], [], [(22, 8, 243, 66540), (22, 1, -4294967296, 66563), (22, 2, -4294967296, 66564), (22, 3, -4294967296, 66563), (22, 4, -4294967296, 66563), (22, 6, -4294967296, 66563), (22, 7, -4294967296, 66564), (22, 10, -4294967296, 66563), (22, 21, 0, 23), (22, 15, 243, 266), (21, 15, 243, 243), (18, 8, 219, 66516), (18, 1, -4294967296, 66539), (18, 2, -4294967296, 66540), (18, 3, -4294967296, 66539), (18, 4, -4294967296, 66539), (18, 6, -4294967296, 66539), (18, 7, -4294967296, 66540), (18, 10, -4294967296, 66539), (18, 17, 0, 23), (18, 15, 219, 242), (17, 15, 219, 219), (10, 13, 0, 4294967296), (13, 11, -2000, 0), (1, 2, -4294967296, 8), (1, 3, -4294967296, 7), (1, 4, -4294967296, 7), (1, 6, -4294967296, 0), (1, 7, -4294967296, 8), (1, 8, -4294967296, 7), (1, 10, -4294967296, 7), (2, 1, -4294967296, 23), (2, 3, -4294967296, 23), (2, 4, -4294967296, 23), (2, 6, -4294967296, 23), (2, 7, -4294967296, 0), (2, 8, -4294967296, 23), (2, 10, -4294967296, 23), (3, 1, -4294967296, 2000), (3, 2, -4294967296, 2001), (3, 4, -4294967296, 2000), (3, 6, -4294967296, 2000), (3, 7, -4294967296, 2001), (3, 8, -4294967296, 2000), (3, 10, -4294967296, 2000), (4, 1, -4294967296, 2000), (4, 2, -4294967296, 2001), (4, 3, -4294967296, 2000), (4, 6, -4294967296, 2000), (4, 7, -4294967296, 2001), (4, 8, -4294967296, 2000), (4, 10, -4294967296, 2000), (6, 1, -4294967296, 0), (6, 2, -4294967296, 8), (6, 3, -4294967296, 7), (6, 4, -4294967296, 7), (6, 7, -4294967296, 8), (6, 8, -4294967296, 7), (6, 10, -4294967296, 7), (7, 1, -4294967296, 23), (7, 2, -4294967296, 0), (7, 3, -4294967296, 23), (7, 4, -4294967296, 23), (7, 6, -4294967296, 23), (7, 8, -4294967296, 23), (7, 10, -4294967296, 23), (8, 1, -4294967296, 23), (8, 2, -4294967296, 24), (8, 3, -4294967296, 23), (8, 4, -4294967296, 23), (8, 6, -4294967296, 23), (8, 7, -4294967296, 24), (8, 10, -4294967296, 23)])
theorem oo_Mo_met_33 {kA : Nat → ClassId} : or_ok kA GG o_Mo_met_33 := by
  intro A ta ws vs hD hth hl hk hds hf
  have hl : vs.length = 23 := hl
  have hk : ∀ q ∈ ([(0, (2, 0, 0, [150])), (1, (0, 0, 7, [])), (2, (0, -1, 23, [])), (3, (0, 0, 2000, [])), (4, (0, 0, 2000, [])), (5, (2, 0, 0, [150])), (6, (0, 0, 7, [])), (7, (0, -1, 23, [])), (8, (0, 0, 23, [])), (10, (0, 0, 8, [])), (11, (0, 0, 2000, [])), (12, (0, 0, 2000, [])), (13, (0, -2000, 8, [])), (14, (2, 0, 0, [152])), (15, (0, 0, 66297, [])), (16, (0, 219, 219, [])), (17, (0, 219, 66516, [])), (18, (0, 219, 66539, [])), (19, (0, 1, 1, [])), (20, (0, 243, 243, [])), (21, (0, 243, 66540, [])), (22, (0, 243, 66563, []))] : List (Nat × tv_T)), tv_ok ta q.2 (n_v vs q.1) := hk
  obtain ⟨t0, hk⟩ := List.forall_mem_cons.mp hk
  have t0 : tv_ok ta (2, 0, 0, [150]) (n_v vs 0) := t0
  have r0 : ta (v_ad (n_v vs 0)) = some 150 := tv_rg t0
  obtain ⟨t1, hk⟩ := List.forall_mem_cons.mp hk
  have t1 : tv_ok ta (0, 0, 7, []) (n_v vs 1) := t1
  have k1 : 0 ≤ v_iv (n_v vs 1) ∧ v_iv (n_v vs 1) ≤ 7 := tv_rng t1
  obtain ⟨t2, hk⟩ := List.forall_mem_cons.mp hk
  have t2 : tv_ok ta (0, -1, 23, []) (n_v vs 2) := t2
  have k2 : (-1) ≤ v_iv (n_v vs 2) ∧ v_iv (n_v vs 2) ≤ 23 := tv_rng t2
  obtain ⟨t3, hk⟩ := List.forall_mem_cons.mp hk
  have t3 : tv_ok ta (0, 0, 2000, []) (n_v vs 3) := t3
  have k3 : 0 ≤ v_iv (n_v vs 3) ∧ v_iv (n_v vs 3) ≤ 2000 := tv_rng t3
  obtain ⟨t4, hk⟩ := List.forall_mem_cons.mp hk
  have t4 : tv_ok ta (0, 0, 2000, []) (n_v vs 4) := t4
  have k4 : 0 ≤ v_iv (n_v vs 4) ∧ v_iv (n_v vs 4) ≤ 2000 := tv_rng t4
  obtain ⟨t5, hk⟩ := List.forall_mem_cons.mp hk
  have t5 : tv_ok ta (2, 0, 0, [150]) (n_v vs 5) := t5
  have r5 : ta (v_ad (n_v vs 5)) = some 150 := tv_rg t5
  obtain ⟨t6, hk⟩ := List.forall_mem_cons.mp hk
  have t6 : tv_ok ta (0, 0, 7, []) (n_v vs 6) := t6
  have k6 : 0 ≤ v_iv (n_v vs 6) ∧ v_iv (n_v vs 6) ≤ 7 := tv_rng t6
  obtain ⟨t7, hk⟩ := List.forall_mem_cons.mp hk
  have t7 : tv_ok ta (0, -1, 23, []) (n_v vs 7) := t7
  have k7 : (-1) ≤ v_iv (n_v vs 7) ∧ v_iv (n_v vs 7) ≤ 23 := tv_rng t7
  obtain ⟨t8, hk⟩ := List.forall_mem_cons.mp hk
  have t8 : tv_ok ta (0, 0, 23, []) (n_v vs 8) := t8
  have k8 : 0 ≤ v_iv (n_v vs 8) ∧ v_iv (n_v vs 8) ≤ 23 := tv_rng t8
  obtain ⟨t10, hk⟩ := List.forall_mem_cons.mp hk
  have t10 : tv_ok ta (0, 0, 8, []) (n_v vs 10) := t10
  have k10 : 0 ≤ v_iv (n_v vs 10) ∧ v_iv (n_v vs 10) ≤ 8 := tv_rng t10
  obtain ⟨t11, hk⟩ := List.forall_mem_cons.mp hk
  have t11 : tv_ok ta (0, 0, 2000, []) (n_v vs 11) := t11
  have k11 : 0 ≤ v_iv (n_v vs 11) ∧ v_iv (n_v vs 11) ≤ 2000 := tv_rng t11
  obtain ⟨t12, hk⟩ := List.forall_mem_cons.mp hk
  have t12 : tv_ok ta (0, 0, 2000, []) (n_v vs 12) := t12
  have k12 : 0 ≤ v_iv (n_v vs 12) ∧ v_iv (n_v vs 12) ≤ 2000 := tv_rng t12
  obtain ⟨t13, hk⟩ := List.forall_mem_cons.mp hk
  have t13 : tv_ok ta (0, -2000, 8, []) (n_v vs 13) := t13
  have k13 : (-2000) ≤ v_iv (n_v vs 13) ∧ v_iv (n_v vs 13) ≤ 8 := tv_rng t13
  obtain ⟨t14, hk⟩ := List.forall_mem_cons.mp hk
  have t14 : tv_ok ta (2, 0, 0, [152]) (n_v vs 14) := t14
  have r14 : ta (v_ad (n_v vs 14)) = some 152 := tv_rg t14
  obtain ⟨t15, hk⟩ := List.forall_mem_cons.mp hk
  have t15 : tv_ok ta (0, 0, 66297, []) (n_v vs 15) := t15
  have k15 : 0 ≤ v_iv (n_v vs 15) ∧ v_iv (n_v vs 15) ≤ 66297 := tv_rng t15
  obtain ⟨t16, hk⟩ := List.forall_mem_cons.mp hk
  have t16 : tv_ok ta (0, 219, 219, []) (n_v vs 16) := t16
  have k16 : 219 ≤ v_iv (n_v vs 16) ∧ v_iv (n_v vs 16) ≤ 219 := tv_rng t16
  obtain ⟨t17, hk⟩ := List.forall_mem_cons.mp hk
  have t17 : tv_ok ta (0, 219, 66516, []) (n_v vs 17) := t17
  have k17 : 219 ≤ v_iv (n_v vs 17) ∧ v_iv (n_v vs 17) ≤ 66516 := tv_rng t17
  obtain ⟨t18, hk⟩ := List.forall_mem_cons.mp hk
  have t18 : tv_ok ta (0, 219, 66539, []) (n_v vs 18) := t18
  have k18 : 219 ≤ v_iv (n_v vs 18) ∧ v_iv (n_v vs 18) ≤ 66539 := tv_rng t18
  obtain ⟨t19, hk⟩ := List.forall_mem_cons.mp hk
  have t19 : tv_ok ta (0, 1, 1, []) (n_v vs 19) := t19
  have k19 : 1 ≤ v_iv (n_v vs 19) ∧ v_iv (n_v vs 19) ≤ 1 := tv_rng t19
  obtain ⟨t20, hk⟩ := List.forall_mem_cons.mp hk
  have t20 : tv_ok ta (0, 243, 243, []) (n_v vs 20) := t20
  have k20 : 243 ≤ v_iv (n_v vs 20) ∧ v_iv (n_v vs 20) ≤ 243 := tv_rng t20
  obtain ⟨t21, hk⟩ := List.forall_mem_cons.mp hk
  have t21 : tv_ok ta (0, 243, 66540, []) (n_v vs 21) := t21
  have k21 : 243 ≤ v_iv (n_v vs 21) ∧ v_iv (n_v vs 21) ≤ 66540 := tv_rng t21
  obtain ⟨t22, hk⟩ := List.forall_mem_cons.mp hk
  have t22 : tv_ok ta (0, 243, 66563, []) (n_v vs 22) := t22
  have k22 : 243 ≤ v_iv (n_v vs 22) ∧ v_iv (n_v vs 22) ≤ 66563 := tv_rng t22
  have hds : ∀ q ∈ ([(22, 8, 243, 66540), (22, 1, -4294967296, 66563), (22, 2, -4294967296, 66564), (22, 3, -4294967296, 66563), (22, 4, -4294967296, 66563), (22, 6, -4294967296, 66563), (22, 7, -4294967296, 66564), (22, 10, -4294967296, 66563), (22, 21, 0, 23), (22, 15, 243, 266), (21, 15, 243, 243), (18, 8, 219, 66516), (18, 1, -4294967296, 66539), (18, 2, -4294967296, 66540), (18, 3, -4294967296, 66539), (18, 4, -4294967296, 66539), (18, 6, -4294967296, 66539), (18, 7, -4294967296, 66540), (18, 10, -4294967296, 66539), (18, 17, 0, 23), (18, 15, 219, 242), (17, 15, 219, 219), (10, 13, 0, 4294967296), (13, 11, -2000, 0), (1, 2, -4294967296, 8), (1, 3, -4294967296, 7), (1, 4, -4294967296, 7), (1, 6, -4294967296, 0), (1, 7, -4294967296, 8), (1, 8, -4294967296, 7), (1, 10, -4294967296, 7), (2, 1, -4294967296, 23), (2, 3, -4294967296, 23), (2, 4, -4294967296, 23), (2, 6, -4294967296, 23), (2, 7, -4294967296, 0), (2, 8, -4294967296, 23), (2, 10, -4294967296, 23), (3, 1, -4294967296, 2000), (3, 2, -4294967296, 2001), (3, 4, -4294967296, 2000), (3, 6, -4294967296, 2000), (3, 7, -4294967296, 2001), (3, 8, -4294967296, 2000), (3, 10, -4294967296, 2000), (4, 1, -4294967296, 2000), (4, 2, -4294967296, 2001), (4, 3, -4294967296, 2000), (4, 6, -4294967296, 2000), (4, 7, -4294967296, 2001), (4, 8, -4294967296, 2000), (4, 10, -4294967296, 2000), (6, 1, -4294967296, 0), (6, 2, -4294967296, 8), (6, 3, -4294967296, 7), (6, 4, -4294967296, 7), (6, 7, -4294967296, 8), (6, 8, -4294967296, 7), (6, 10, -4294967296, 7), (7, 1, -4294967296, 23), (7, 2, -4294967296, 0), (7, 3, -4294967296, 23), (7, 4, -4294967296, 23), (7, 6, -4294967296, 23), (7, 8, -4294967296, 23), (7, 10, -4294967296, 23), (8, 1, -4294967296, 23), (8, 2, -4294967296, 24), (8, 3, -4294967296, 23), (8, 4, -4294967296, 23), (8, 6, -4294967296, 23), (8, 7, -4294967296, 24), (8, 10, -4294967296, 23)] : List of_T), n_iv vs q.2.1 + q.2.2.1 ≤ n_iv vs q.1 ∧ n_iv vs q.1 ≤ n_iv vs q.2.1 + q.2.2.2 := hds
  obtain ⟨d0, hds⟩ := List.forall_mem_cons.mp hds
  have d0 : v_iv (n_v vs 8) + 243 ≤ v_iv (n_v vs 22) ∧ v_iv (n_v vs 22) ≤ v_iv (n_v vs 8) + 66540 := d0
  obtain ⟨d1, hds⟩ := List.forall_mem_cons.mp hds
  have d1 : v_iv (n_v vs 1) + (-4294967296) ≤ v_iv (n_v vs 22) ∧ v_iv (n_v vs 22) ≤ v_iv (n_v vs 1) + 66563 := d1
  obtain ⟨d2, hds⟩ := List.forall_mem_cons.mp hds
  have d2 : v_iv (n_v vs 2) + (-4294967296) ≤ v_iv (n_v vs 22) ∧ v_iv (n_v vs 22) ≤ v_iv (n_v vs 2) + 66564 := d2
  obtain ⟨d3, hds⟩ := List.forall_mem_cons.mp hds
  have d3 : v_iv (n_v vs 3) + (-4294967296) ≤ v_iv (n_v vs 22) ∧ v_iv (n_v vs 22) ≤ v_iv (n_v vs 3) + 66563 := d3
  obtain ⟨d4, hds⟩ := List.forall_mem_cons.mp hds
  have d4 : v_iv (n_v vs 4) + (-4294967296) ≤ v_iv (n_v vs 22) ∧ v_iv (n_v vs 22) ≤ v_iv (n_v vs 4) + 66563 := d4
  obtain ⟨d5, hds⟩ := List.forall_mem_cons.mp hds
  have d5 : v_iv (n_v vs 6) + (-4294967296) ≤ v_iv (n_v vs 22) ∧ v_iv (n_v vs 22) ≤ v_iv (n_v vs 6) + 66563 := d5
  obtain ⟨d6, hds⟩ := List.forall_mem_cons.mp hds
  have d6 : v_iv (n_v vs 7) + (-4294967296) ≤ v_iv (n_v vs 22) ∧ v_iv (n_v vs 22) ≤ v_iv (n_v vs 7) + 66564 := d6
  obtain ⟨d7, hds⟩ := List.forall_mem_cons.mp hds
  have d7 : v_iv (n_v vs 10) + (-4294967296) ≤ v_iv (n_v vs 22) ∧ v_iv (n_v vs 22) ≤ v_iv (n_v vs 10) + 66563 := d7
  obtain ⟨d8, hds⟩ := List.forall_mem_cons.mp hds
  have d8 : v_iv (n_v vs 21) + 0 ≤ v_iv (n_v vs 22) ∧ v_iv (n_v vs 22) ≤ v_iv (n_v vs 21) + 23 := d8
  obtain ⟨d9, hds⟩ := List.forall_mem_cons.mp hds
  have d9 : v_iv (n_v vs 15) + 243 ≤ v_iv (n_v vs 22) ∧ v_iv (n_v vs 22) ≤ v_iv (n_v vs 15) + 266 := d9
  obtain ⟨d10, hds⟩ := List.forall_mem_cons.mp hds
  have d10 : v_iv (n_v vs 15) + 243 ≤ v_iv (n_v vs 21) ∧ v_iv (n_v vs 21) ≤ v_iv (n_v vs 15) + 243 := d10
  obtain ⟨d11, hds⟩ := List.forall_mem_cons.mp hds
  have d11 : v_iv (n_v vs 8) + 219 ≤ v_iv (n_v vs 18) ∧ v_iv (n_v vs 18) ≤ v_iv (n_v vs 8) + 66516 := d11
  obtain ⟨d12, hds⟩ := List.forall_mem_cons.mp hds
  have d12 : v_iv (n_v vs 1) + (-4294967296) ≤ v_iv (n_v vs 18) ∧ v_iv (n_v vs 18) ≤ v_iv (n_v vs 1) + 66539 := d12
  obtain ⟨d13, hds⟩ := List.forall_mem_cons.mp hds
  have d13 : v_iv (n_v vs 2) + (-4294967296) ≤ v_iv (n_v vs 18) ∧ v_iv (n_v vs 18) ≤ v_iv (n_v vs 2) + 66540 := d13
  obtain ⟨d14, hds⟩ := List.forall_mem_cons.mp hds
  have d14 : v_iv (n_v vs 3) + (-4294967296) ≤ v_iv (n_v vs 18) ∧ v_iv (n_v vs 18) ≤ v_iv (n_v vs 3) + 66539 := d14
  obtain ⟨d15, hds⟩ := List.forall_mem_cons.mp hds
  have d15 : v_iv (n_v vs 4) + (-4294967296) ≤ v_iv (n_v vs 18) ∧ v_iv (n_v vs 18) ≤ v_iv (n_v vs 4) + 66539 := d15
  obtain ⟨d16, hds⟩ := List.forall_mem_cons.mp hds
  have d16 : v_iv (n_v vs 6) + (-4294967296) ≤ v_iv (n_v vs 18) ∧ v_iv (n_v vs 18) ≤ v_iv (n_v vs 6) + 66539 := d16
  obtain ⟨d17, hds⟩ := List.forall_mem_cons.mp hds
  have d17 : v_iv (n_v vs 7) + (-4294967296) ≤ v_iv (n_v vs 18) ∧ v_iv (n_v vs 18) ≤ v_iv (n_v vs 7) + 66540 := d17
  obtain ⟨d18, hds⟩ := List.forall_mem_cons.mp hds
  have d18 : v_iv (n_v vs 10) + (-4294967296) ≤ v_iv (n_v vs 18) ∧ v_iv (n_v vs 18) ≤ v_iv (n_v vs 10) + 66539 := d18
  obtain ⟨d19, hds⟩ := List.forall_mem_cons.mp hds
  have d19 : v_iv (n_v vs 17) + 0 ≤ v_iv (n_v vs 18) ∧ v_iv (n_v vs 18) ≤ v_iv (n_v vs 17) + 23 := d19
  obtain ⟨d20, hds⟩ := List.forall_mem_cons.mp hds
  have d20 : v_iv (n_v vs 15) + 219 ≤ v_iv (n_v vs 18) ∧ v_iv (n_v vs 18) ≤ v_iv (n_v vs 15) + 242 := d20
  obtain ⟨d21, hds⟩ := List.forall_mem_cons.mp hds
  have d21 : v_iv (n_v vs 15) + 219 ≤ v_iv (n_v vs 17) ∧ v_iv (n_v vs 17) ≤ v_iv (n_v vs 15) + 219 := d21
  obtain ⟨d22, hds⟩ := List.forall_mem_cons.mp hds
  have d22 : v_iv (n_v vs 13) + 0 ≤ v_iv (n_v vs 10) ∧ v_iv (n_v vs 10) ≤ v_iv (n_v vs 13) + 4294967296 := d22
  obtain ⟨d23, hds⟩ := List.forall_mem_cons.mp hds
  have d23 : v_iv (n_v vs 11) + (-2000) ≤ v_iv (n_v vs 13) ∧ v_iv (n_v vs 13) ≤ v_iv (n_v vs 11) + 0 := d23
  obtain ⟨d24, hds⟩ := List.forall_mem_cons.mp hds
  have d24 : v_iv (n_v vs 2) + (-4294967296) ≤ v_iv (n_v vs 1) ∧ v_iv (n_v vs 1) ≤ v_iv (n_v vs 2) + 8 := d24
  obtain ⟨d25, hds⟩ := List.forall_mem_cons.mp hds
  have d25 : v_iv (n_v vs 3) + (-4294967296) ≤ v_iv (n_v vs 1) ∧ v_iv (n_v vs 1) ≤ v_iv (n_v vs 3) + 7 := d25
  obtain ⟨d26, hds⟩ := List.forall_mem_cons.mp hds
  have d26 : v_iv (n_v vs 4) + (-4294967296) ≤ v_iv (n_v vs 1) ∧ v_iv (n_v vs 1) ≤ v_iv (n_v vs 4) + 7 := d26
  obtain ⟨d27, hds⟩ := List.forall_mem_cons.mp hds
  have d27 : v_iv (n_v vs 6) + (-4294967296) ≤ v_iv (n_v vs 1) ∧ v_iv (n_v vs 1) ≤ v_iv (n_v vs 6) + 0 := d27
  obtain ⟨d28, hds⟩ := List.forall_mem_cons.mp hds
  have d28 : v_iv (n_v vs 7) + (-4294967296) ≤ v_iv (n_v vs 1) ∧ v_iv (n_v vs 1) ≤ v_iv (n_v vs 7) + 8 := d28
  obtain ⟨d29, hds⟩ := List.forall_mem_cons.mp hds
  have d29 : v_iv (n_v vs 8) + (-4294967296) ≤ v_iv (n_v vs 1) ∧ v_iv (n_v vs 1) ≤ v_iv (n_v vs 8) + 7 := d29
  obtain ⟨d30, hds⟩ := List.forall_mem_cons.mp hds
  have d30 : v_iv (n_v vs 10) + (-4294967296) ≤ v_iv (n_v vs 1) ∧ v_iv (n_v vs 1) ≤ v_iv (n_v vs 10) + 7 := d30
  obtain ⟨d31, hds⟩ := List.forall_mem_cons.mp hds
  have d31 : v_iv (n_v vs 1) + (-4294967296) ≤ v_iv (n_v vs 2) ∧ v_iv (n_v vs 2) ≤ v_iv (n_v vs 1) + 23 := d31
  obtain ⟨d32, hds⟩ := List.forall_mem_cons.mp hds
  have d32 : v_iv (n_v vs 3) + (-4294967296) ≤ v_iv (n_v vs 2) ∧ v_iv (n_v vs 2) ≤ v_iv (n_v vs 3) + 23 := d32
  obtain ⟨d33, hds⟩ := List.forall_mem_cons.mp hds
  have d33 : v_iv (n_v vs 4) + (-4294967296) ≤ v_iv (n_v vs 2) ∧ v_iv (n_v vs 2) ≤ v_iv (n_v vs 4) + 23 := d33
  obtain ⟨d34, hds⟩ := List.forall_mem_cons.mp hds
  have d34 : v_iv (n_v vs 6) + (-4294967296) ≤ v_iv (n_v vs 2) ∧ v_iv (n_v vs 2) ≤ v_iv (n_v vs 6) + 23 := d34
  obtain ⟨d35, hds⟩ := List.forall_mem_cons.mp hds
  have d35 : v_iv (n_v vs 7) + (-4294967296) ≤ v_iv (n_v vs 2) ∧ v_iv (n_v vs 2) ≤ v_iv (n_v vs 7) + 0 := d35
  obtain ⟨d36, hds⟩ := List.forall_mem_cons.mp hds
  have d36 : v_iv (n_v vs 8) + (-4294967296) ≤ v_iv (n_v vs 2) ∧ v_iv (n_v vs 2) ≤ v_iv (n_v vs 8) + 23 := d36
  obtain ⟨d37, hds⟩ := List.forall_mem_cons.mp hds
  have d37 : v_iv (n_v vs 10) + (-4294967296) ≤ v_iv (n_v vs 2) ∧ v_iv (n_v vs 2) ≤ v_iv (n_v vs 10) + 23 := d37
  obtain ⟨d38, hds⟩ := List.forall_mem_cons.mp hds
  have d38 : v_iv (n_v vs 1) + (-4294967296) ≤ v_iv (n_v vs 3) ∧ v_iv (n_v vs 3) ≤ v_iv (n_v vs 1) + 2000 := d38
  obtain ⟨d39, hds⟩ := List.forall_mem_cons.mp hds
  have d39 : v_iv (n_v vs 2) + (-4294967296) ≤ v_iv (n_v vs 3) ∧ v_iv (n_v vs 3) ≤ v_iv (n_v vs 2) + 2001 := d39
  obtain ⟨d40, hds⟩ := List.forall_mem_cons.mp hds
  have d40 : v_iv (n_v vs 4) + (-4294967296) ≤ v_iv (n_v vs 3) ∧ v_iv (n_v vs 3) ≤ v_iv (n_v vs 4) + 2000 := d40
  obtain ⟨d41, hds⟩ := List.forall_mem_cons.mp hds
  have d41 : v_iv (n_v vs 6) + (-4294967296) ≤ v_iv (n_v vs 3) ∧ v_iv (n_v vs 3) ≤ v_iv (n_v vs 6) + 2000 := d41
  obtain ⟨d42, hds⟩ := List.forall_mem_cons.mp hds
  have d42 : v_iv (n_v vs 7) + (-4294967296) ≤ v_iv (n_v vs 3) ∧ v_iv (n_v vs 3) ≤ v_iv (n_v vs 7) + 2001 := d42
  obtain ⟨d43, hds⟩ := List.forall_mem_cons.mp hds
  have d43 : v_iv (n_v vs 8) + (-4294967296) ≤ v_iv (n_v vs 3) ∧ v_iv (n_v vs 3) ≤ v_iv (n_v vs 8) + 2000 := d43
  obtain ⟨d44, hds⟩ := List.forall_mem_cons.mp hds
  have d44 : v_iv (n_v vs 10) + (-4294967296) ≤ v_iv (n_v vs 3) ∧ v_iv (n_v vs 3) ≤ v_iv (n_v vs 10) + 2000 := d44
  obtain ⟨d45, hds⟩ := List.forall_mem_cons.mp hds
  have d45 : v_iv (n_v vs 1) + (-4294967296) ≤ v_iv (n_v vs 4) ∧ v_iv (n_v vs 4) ≤ v_iv (n_v vs 1) + 2000 := d45
  obtain ⟨d46, hds⟩ := List.forall_mem_cons.mp hds
  have d46 : v_iv (n_v vs 2) + (-4294967296) ≤ v_iv (n_v vs 4) ∧ v_iv (n_v vs 4) ≤ v_iv (n_v vs 2) + 2001 := d46
  obtain ⟨d47, hds⟩ := List.forall_mem_cons.mp hds
  have d47 : v_iv (n_v vs 3) + (-4294967296) ≤ v_iv (n_v vs 4) ∧ v_iv (n_v vs 4) ≤ v_iv (n_v vs 3) + 2000 := d47
  obtain ⟨d48, hds⟩ := List.forall_mem_cons.mp hds
  have d48 : v_iv (n_v vs 6) + (-4294967296) ≤ v_iv (n_v vs 4) ∧ v_iv (n_v vs 4) ≤ v_iv (n_v vs 6) + 2000 := d48
  obtain ⟨d49, hds⟩ := List.forall_mem_cons.mp hds
  have d49 : v_iv (n_v vs 7) + (-4294967296) ≤ v_iv (n_v vs 4) ∧ v_iv (n_v vs 4) ≤ v_iv (n_v vs 7) + 2001 := d49
  obtain ⟨d50, hds⟩ := List.forall_mem_cons.mp hds
  have d50 : v_iv (n_v vs 8) + (-4294967296) ≤ v_iv (n_v vs 4) ∧ v_iv (n_v vs 4) ≤ v_iv (n_v vs 8) + 2000 := d50
  obtain ⟨d51, hds⟩ := List.forall_mem_cons.mp hds
  have d51 : v_iv (n_v vs 10) + (-4294967296) ≤ v_iv (n_v vs 4) ∧ v_iv (n_v vs 4) ≤ v_iv (n_v vs 10) + 2000 := d51
  obtain ⟨d52, hds⟩ := List.forall_mem_cons.mp hds
  have d52 : v_iv (n_v vs 1) + (-4294967296) ≤ v_iv (n_v vs 6) ∧ v_iv (n_v vs 6) ≤ v_iv (n_v vs 1) + 0 := d52
  obtain ⟨d53, hds⟩ := List.forall_mem_cons.mp hds
  have d53 : v_iv (n_v vs 2) + (-4294967296) ≤ v_iv (n_v vs 6) ∧ v_iv (n_v vs 6) ≤ v_iv (n_v vs 2) + 8 := d53
  obtain ⟨d54, hds⟩ := List.forall_mem_cons.mp hds
  have d54 : v_iv (n_v vs 3) + (-4294967296) ≤ v_iv (n_v vs 6) ∧ v_iv (n_v vs 6) ≤ v_iv (n_v vs 3) + 7 := d54
  obtain ⟨d55, hds⟩ := List.forall_mem_cons.mp hds
  have d55 : v_iv (n_v vs 4) + (-4294967296) ≤ v_iv (n_v vs 6) ∧ v_iv (n_v vs 6) ≤ v_iv (n_v vs 4) + 7 := d55
  obtain ⟨d56, hds⟩ := List.forall_mem_cons.mp hds
  have d56 : v_iv (n_v vs 7) + (-4294967296) ≤ v_iv (n_v vs 6) ∧ v_iv (n_v vs 6) ≤ v_iv (n_v vs 7) + 8 := d56
  obtain ⟨d57, hds⟩ := List.forall_mem_cons.mp hds
  have d57 : v_iv (n_v vs 8) + (-4294967296) ≤ v_iv (n_v vs 6) ∧ v_iv (n_v vs 6) ≤ v_iv (n_v vs 8) + 7 := d57
  obtain ⟨d58, hds⟩ := List.forall_mem_cons.mp hds
  have d58 : v_iv (n_v vs 10) + (-4294967296) ≤ v_iv (n_v vs 6) ∧ v_iv (n_v vs 6) ≤ v_iv (n_v vs 10) + 7 := d58
  obtain ⟨d59, hds⟩ := List.forall_mem_cons.mp hds
  have d59 : v_iv (n_v vs 1) + (-4294967296) ≤ v_iv (n_v vs 7) ∧ v_iv (n_v vs 7) ≤ v_iv (n_v vs 1) + 23 := d59
  obtain ⟨d60, hds⟩ := List.forall_mem_cons.mp hds
  have d60 : v_iv (n_v vs 2) + (-4294967296) ≤ v_iv (n_v vs 7) ∧ v_iv (n_v vs 7) ≤ v_iv (n_v vs 2) + 0 := d60
  obtain ⟨d61, hds⟩ := List.forall_mem_cons.mp hds
  have d61 : v_iv (n_v vs 3) + (-4294967296) ≤ v_iv (n_v vs 7) ∧ v_iv (n_v vs 7) ≤ v_iv (n_v vs 3) + 23 := d61
  obtain ⟨d62, hds⟩ := List.forall_mem_cons.mp hds
  have d62 : v_iv (n_v vs 4) + (-4294967296) ≤ v_iv (n_v vs 7) ∧ v_iv (n_v vs 7) ≤ v_iv (n_v vs 4) + 23 := d62
  obtain ⟨d63, hds⟩ := List.forall_mem_cons.mp hds
  have d63 : v_iv (n_v vs 6) + (-4294967296) ≤ v_iv (n_v vs 7) ∧ v_iv (n_v vs 7) ≤ v_iv (n_v vs 6) + 23 := d63
  obtain ⟨d64, hds⟩ := List.forall_mem_cons.mp hds
  have d64 : v_iv (n_v vs 8) + (-4294967296) ≤ v_iv (n_v vs 7) ∧ v_iv (n_v vs 7) ≤ v_iv (n_v vs 8) + 23 := d64
  obtain ⟨d65, hds⟩ := List.forall_mem_cons.mp hds
  have d65 : v_iv (n_v vs 10) + (-4294967296) ≤ v_iv (n_v vs 7) ∧ v_iv (n_v vs 7) ≤ v_iv (n_v vs 10) + 23 := d65
  obtain ⟨d66, hds⟩ := List.forall_mem_cons.mp hds
  have d66 : v_iv (n_v vs 1) + (-4294967296) ≤ v_iv (n_v vs 8) ∧ v_iv (n_v vs 8) ≤ v_iv (n_v vs 1) + 23 := d66
  obtain ⟨d67, hds⟩ := List.forall_mem_cons.mp hds
  have d67 : v_iv (n_v vs 2) + (-4294967296) ≤ v_iv (n_v vs 8) ∧ v_iv (n_v vs 8) ≤ v_iv (n_v vs 2) + 24 := d67
  obtain ⟨d68, hds⟩ := List.forall_mem_cons.mp hds
  have d68 : v_iv (n_v vs 3) + (-4294967296) ≤ v_iv (n_v vs 8) ∧ v_iv (n_v vs 8) ≤ v_iv (n_v vs 3) + 23 := d68
  obtain ⟨d69, hds⟩ := List.forall_mem_cons.mp hds
  have d69 : v_iv (n_v vs 4) + (-4294967296) ≤ v_iv (n_v vs 8) ∧ v_iv (n_v vs 8) ≤ v_iv (n_v vs 4) + 23 := d69
  obtain ⟨d70, hds⟩ := List.forall_mem_cons.mp hds
  have d70 : v_iv (n_v vs 6) + (-4294967296) ≤ v_iv (n_v vs 8) ∧ v_iv (n_v vs 8) ≤ v_iv (n_v vs 6) + 23 := d70
  obtain ⟨d71, hds⟩ := List.forall_mem_cons.mp hds
  have d71 : v_iv (n_v vs 7) + (-4294967296) ≤ v_iv (n_v vs 8) ∧ v_iv (n_v vs 8) ≤ v_iv (n_v vs 7) + 24 := d71
  obtain ⟨d72, hds⟩ := List.forall_mem_cons.mp hds
  have d72 : v_iv (n_v vs 10) + (-4294967296) ≤ v_iv (n_v vs 8) ∧ v_iv (n_v vs 8) ≤ v_iv (n_v vs 10) + 23 := d72
  have hf : fc_ok [(20, [5, 5], [30, 0, 1, 1, 15, -1, 1, 11]), (20, [5], [50, 3, 0, 12, 11, 15, 2, 21, 4, 7, 1, 3, 2, 0, 12, 0, 1, 0, 3, 2, 0, 11, 4, 3, 2, 0, 15, 0, 8, 3, 7, 1, 3, 2, 0, 12, 0, 0, 0, 7, 4, 3, 2, 0, 15, 0, 1, 2, 0, 11]), (20, [3, 5], [30, 0, 1, 0, 0, -1, 1, 11]), (20, [4, 5], [30, -1, 1, 0, 0, -1, 1, 11]), (20, [5], [50, 1, 0, 12, 1, 3, 2, 0, 12, 0, 1]), (24, [0, 5], []), (24, [1, 6], []), (24, [2, 7], []), (100, [14, 22, 6], []), (1, [22, 21, 8], []), (1, [21, 15, 20], []), (9, [15, 5], [5]), (9, [14, 5], [2]), (20, [5, 5], [30, 0, 1, 1, 15, -1, 1, 11]), (20, [5], [50, 3, 0, 12, 11, 15, 2, 21, 4, 7, 1, 3, 2, 0, 12, 0, 1, 0, 3, 2, 0, 11, 4, 3, 2, 0, 15, 0, 8, 3, 7, 1, 3, 2, 0, 12, 0, 0, 0, 7, 4, 3, 2, 0, 15, 0, 1, 2, 0, 11]), (20, [3, 5], [30, 0, 1, 0, 0, -1, 1, 11]), (20, [4, 5], [30, -1, 1, 0, 0, -1, 1, 11]), (20, [5], [50, 1, 0, 12, 1, 3, 2, 0, 12, 0, 1]), (100, [14, 18, 19], []), (1, [18, 17, 8], []), (1, [17, 15, 16], []), (7, [10, 13], [3]), (2, [13, 11, 12], []), (9, [12, 5], [15]), (9, [11, 5], [11]), (20, [5, 5], [30, 0, 1, 1, 15, -1, 1, 11]), (20, [5], [50, 3, 0, 12, 11, 15, 2, 21, 4, 7, 1, 3, 2, 0, 12, 0, 1, 0, 3, 2, 0, 11, 4, 3, 2, 0, 15, 0, 8, 3, 7, 1, 3, 2, 0, 12, 0, 0, 0, 7, 4, 3, 2, 0, 15, 0, 1, 2, 0, 11]), (20, [3, 5], [30, 0, 1, 0, 0, -1, 1, 11]), (20, [4, 5], [30, -1, 1, 0, 0, -1, 1, 11]), (20, [5], [50, 1, 0, 12, 1, 3, 2, 0, 12, 0, 1]), (20, [7, 5], [50, 1, 1, 1005, 1002, 3, 6, 0, 2, 1, 0, 0, -1, 0, 10, 3, 1, 2, 4, 3, 2, 1, 5, 0, 1, 0, 47]), (20, [6, 5], [50, 1, 1, 1005, 1002, 0, 6, 4, 2, 1, 0, 0, 1, 3, 1, 2, 4, 3, 2, 1, 5, 0, 2])] ta ws vs := hf
  obtain ⟨f0, hf⟩ := fc_un (show (20 : Nat) < 100 from by decide) hf
  have f0 : 1 * w_fi ws (n_v vs 5) 15 + ((-1) * w_fi ws (n_v vs 5) 11 + 0) ≤ 0 := f0
  obtain ⟨f1, hf⟩ := fc_un (show (20 : Nat) < 100 from by decide) hf
  have f1 : ((w_fi ws (n_v vs 5) 12 = 1) → (w_fi ws (n_v vs 5) 11 ≤ (w_fi ws (n_v vs 5) 15 + 8))) ∧ ((w_fi ws (n_v vs 5) 12 = 0) ∨ ((w_fi ws (n_v vs 5) 15 + 1) ≤ w_fi ws (n_v vs 5) 11)) := f1
  obtain ⟨f2, hf⟩ := fc_un (show (20 : Nat) < 100 from by decide) hf
  have f2 : 1 * v_iv (n_v vs 3) + ((-1) * w_fi ws (n_v vs 5) 11 + 0) ≤ 0 := f2
  obtain ⟨f3, hf⟩ := fc_un (show (20 : Nat) < 100 from by decide) hf
  have f3 : 1 * v_iv (n_v vs 4) + ((-1) * w_fi ws (n_v vs 5) 11 + 0) ≤ (-1) := f3
  obtain ⟨f4, hf⟩ := fc_un (show (20 : Nat) < 100 from by decide) hf
  have f4 : w_fi ws (n_v vs 5) 12 = 1 := f4
  obtain ⟨f5, hf⟩ := fc_un (show (24 : Nat) < 100 from by decide) hf
  have f5 : n_v vs 0 = n_v vs 5 := f5
  obtain ⟨f6, hf⟩ := fc_un (show (24 : Nat) < 100 from by decide) hf
  have f6 : n_v vs 1 = n_v vs 6 := f6
  obtain ⟨f7, hf⟩ := fc_un (show (24 : Nat) < 100 from by decide) hf
  have f7 : n_v vs 2 = n_v vs 7 := f7
  obtain ⟨ta1, w1, le1, ⟨_, s1⟩, hf⟩ := fc_us (show ¬ (100 : Nat) < 100 from by decide) hf
  have s1 : (∀ b j, w_el ws b j = if b = v_ad (n_v vs 14) ∧ j = (v_iv (n_v vs 22)).toNat then v_iv (n_v vs 6) else w_el w1 b j) ∧ ∀ b k, w_fd ws b k = w_fd w1 b k := s1
  obtain ⟨f9, hf⟩ := fc_un (show (1 : Nat) < 100 from by decide) hf
  have f9 : v_iv (n_v vs 22) = v_iv (n_v vs 21) + v_iv (n_v vs 8) := f9
  obtain ⟨f10, hf⟩ := fc_un (show (1 : Nat) < 100 from by decide) hf
  have f10 : v_iv (n_v vs 21) = v_iv (n_v vs 15) + v_iv (n_v vs 20) := f10
  obtain ⟨f11, hf⟩ := fc_un (show (9 : Nat) < 100 from by decide) hf
  have f11 : n_v vs 15 = w_fd w1 (v_ad (n_v vs 5)) 5 := f11
  obtain ⟨f12, hf⟩ := fc_un (show (9 : Nat) < 100 from by decide) hf
  have f12 : n_v vs 14 = w_fd w1 (v_ad (n_v vs 5)) 2 := f12
  obtain ⟨f13, hf⟩ := fc_un (show (20 : Nat) < 100 from by decide) hf
  have f13 : 1 * w_fi w1 (n_v vs 5) 15 + ((-1) * w_fi w1 (n_v vs 5) 11 + 0) ≤ 0 := f13
  obtain ⟨f14, hf⟩ := fc_un (show (20 : Nat) < 100 from by decide) hf
  have f14 : ((w_fi w1 (n_v vs 5) 12 = 1) → (w_fi w1 (n_v vs 5) 11 ≤ (w_fi w1 (n_v vs 5) 15 + 8))) ∧ ((w_fi w1 (n_v vs 5) 12 = 0) ∨ ((w_fi w1 (n_v vs 5) 15 + 1) ≤ w_fi w1 (n_v vs 5) 11)) := f14
  obtain ⟨f15, hf⟩ := fc_un (show (20 : Nat) < 100 from by decide) hf
  have f15 : 1 * v_iv (n_v vs 3) + ((-1) * w_fi w1 (n_v vs 5) 11 + 0) ≤ 0 := f15
  obtain ⟨f16, hf⟩ := fc_un (show (20 : Nat) < 100 from by decide) hf
  have f16 : 1 * v_iv (n_v vs 4) + ((-1) * w_fi w1 (n_v vs 5) 11 + 0) ≤ (-1) := f16
  obtain ⟨f17, hf⟩ := fc_un (show (20 : Nat) < 100 from by decide) hf
  have f17 : w_fi w1 (n_v vs 5) 12 = 1 := f17
  obtain ⟨ta2, w2, le2, ⟨_, s2⟩, hf⟩ := fc_us (show ¬ (100 : Nat) < 100 from by decide) hf
  have s2 : (∀ b j, w_el w1 b j = if b = v_ad (n_v vs 14) ∧ j = (v_iv (n_v vs 18)).toNat then v_iv (n_v vs 19) else w_el w2 b j) ∧ ∀ b k, w_fd w1 b k = w_fd w2 b k := s2
  obtain ⟨f19, hf⟩ := fc_un (show (1 : Nat) < 100 from by decide) hf
  have f19 : v_iv (n_v vs 18) = v_iv (n_v vs 17) + v_iv (n_v vs 8) := f19
  obtain ⟨f20, hf⟩ := fc_un (show (1 : Nat) < 100 from by decide) hf
  have f20 : v_iv (n_v vs 17) = v_iv (n_v vs 15) + v_iv (n_v vs 16) := f20
  obtain ⟨f21, hf⟩ := fc_un (show (7 : Nat) < 100 from by decide) hf
  have f21 : v_iv (n_v vs 13) ≤ v_iv (n_v vs 10) := f21
  obtain ⟨f22, hf⟩ := fc_un (show (2 : Nat) < 100 from by decide) hf
  have f22 : v_iv (n_v vs 13) = v_iv (n_v vs 11) - v_iv (n_v vs 12) := f22
  obtain ⟨f23, hf⟩ := fc_un (show (9 : Nat) < 100 from by decide) hf
  have f23 : n_v vs 12 = w_fd w2 (v_ad (n_v vs 5)) 15 := f23
  obtain ⟨f24, hf⟩ := fc_un (show (9 : Nat) < 100 from by decide) hf
  have f24 : n_v vs 11 = w_fd w2 (v_ad (n_v vs 5)) 11 := f24
  obtain ⟨f25, hf⟩ := fc_un (show (20 : Nat) < 100 from by decide) hf
  have f25 : 1 * w_fi w2 (n_v vs 5) 15 + ((-1) * w_fi w2 (n_v vs 5) 11 + 0) ≤ 0 := f25
  obtain ⟨f26, hf⟩ := fc_un (show (20 : Nat) < 100 from by decide) hf
  have f26 : ((w_fi w2 (n_v vs 5) 12 = 1) → (w_fi w2 (n_v vs 5) 11 ≤ (w_fi w2 (n_v vs 5) 15 + 8))) ∧ ((w_fi w2 (n_v vs 5) 12 = 0) ∨ ((w_fi w2 (n_v vs 5) 15 + 1) ≤ w_fi w2 (n_v vs 5) 11)) := f26
  obtain ⟨f27, hf⟩ := fc_un (show (20 : Nat) < 100 from by decide) hf
  have f27 : 1 * v_iv (n_v vs 3) + ((-1) * w_fi w2 (n_v vs 5) 11 + 0) ≤ 0 := f27
  obtain ⟨f28, hf⟩ := fc_un (show (20 : Nat) < 100 from by decide) hf
  have f28 : 1 * v_iv (n_v vs 4) + ((-1) * w_fi w2 (n_v vs 5) 11 + 0) ≤ (-1) := f28
  obtain ⟨f29, hf⟩ := fc_un (show (20 : Nat) < 100 from by decide) hf
  have f29 : w_fi w2 (n_v vs 5) 12 = 1 := f29
  obtain ⟨f30, hf⟩ := fc_un (show (20 : Nat) < 100 from by decide) hf
  have f30 : (v_iv (n_v vs 7) ≤ (-1)) ∨ (w_ei w2 (w_ar w2 (n_v vs 5) 2) ((w_fi w2 (n_v vs 5) 5 + 1)) ≤ 47) := f30
  obtain ⟨f31, hf⟩ := fc_un (show (20 : Nat) < 100 from by decide) hf
  have f31 : (v_iv (n_v vs 6) + 1) ≤ w_ei w2 (w_ar w2 (n_v vs 5) 2) ((w_fi w2 (n_v vs 5) 5 + 2)) := f31
  have q5 : n_v vs 5 = n_v vs 0 := f5.symm
  have q6 : n_v vs 6 = n_v vs 1 := f6.symm
  have q7 : n_v vs 7 = n_v vs 2 := f7.symm
  rw [q5] at f0
  rw [q5] at f1
  rw [q5] at f2
  rw [q5] at f3
  rw [q5] at f4
  rw [q6] at s1
  rw [q5] at f11
  rw [q5] at f12
  rw [q5] at f13
  rw [q5] at f14
  rw [q5] at f15
  rw [q5] at f16
  rw [q5] at f17
  rw [q5] at f23
  rw [q5] at f24
  rw [q5] at f25
  rw [q5] at f26
  rw [q5] at f27
  rw [q5] at f28
  rw [q5] at f29
  rw [q5] at f30
  rw [q7] at f30
  rw [q5] at f31
  rw [q6] at f31
  have ar_0_2_1 : w_ar w1 (n_v vs 0) 2 = w_ar ws (n_v vs 0) 2 := by show v_ad (w_fd w1 _ _) = v_ad (w_fd ws _ _); rw [s1.2]
  have ar_0_2_2 : w_ar w2 (n_v vs 0) 2 = w_ar ws (n_v vs 0) 2 := by rw [← ar_0_2_1]; show v_ad (w_fd w2 _ _) = v_ad (w_fd w1 _ _); rw [s2.2]
  have cr_0_2 : ta (w_ar ws (n_v vs 0) 2) = some 152 := tv_rg (th_fd hD hth r0 (g := GG_150) rfl (k := 2) (t := (2, 0, 0, [152])) rfl rfl)
  have ad_14 : v_ad (n_v vs 14) = w_ar ws (n_v vs 0) 2 := (congrArg v_ad f12).trans ar_0_2_1
  have g11 : v_iv (n_v vs 15) = w_fi w1 (n_v vs 0) 5 := congrArg v_iv f11
  have g23 : v_iv (n_v vs 12) = w_fi w2 (n_v vs 0) 15 := congrArg v_iv f23
  have g24 : v_iv (n_v vs 11) = w_fi w2 (n_v vs 0) 11 := congrArg v_iv f24
  rw [ar_0_2_2] at f30
  rw [ar_0_2_2] at f31
  have fe_0_5_1 : w_fi ws (n_v vs 0) 5 = w_fi w1 (n_v vs 0) 5 := congrArg v_iv (s1.2 _ _)
  have fe_0_11_1 : w_fi ws (n_v vs 0) 11 = w_fi w1 (n_v vs 0) 11 := congrArg v_iv (s1.2 _ _)
  have fe_0_12_1 : w_fi ws (n_v vs 0) 12 = w_fi w1 (n_v vs 0) 12 := congrArg v_iv (s1.2 _ _)
  have fe_0_15_1 : w_fi ws (n_v vs 0) 15 = w_fi w1 (n_v vs 0) 15 := congrArg v_iv (s1.2 _ _)
  have fe_0_5_2 : w_fi w1 (n_v vs 0) 5 = w_fi w2 (n_v vs 0) 5 := congrArg v_iv (s2.2 _ _)
  have fe_0_11_2 : w_fi w1 (n_v vs 0) 11 = w_fi w2 (n_v vs 0) 11 := congrArg v_iv (s2.2 _ _)
  have fe_0_12_2 : w_fi w1 (n_v vs 0) 12 = w_fi w2 (n_v vs 0) 12 := congrArg v_iv (s2.2 _ _)
  have fe_0_15_2 : w_fi w1 (n_v vs 0) 15 = w_fi w2 (n_v vs 0) 15 := congrArg v_iv (s2.2 _ _)
  have hE_0_2_1 : ∀ j : Int, 0 ≤ j → (j = v_iv (n_v vs 22) → w_ei ws (w_ar ws (n_v vs 0) 2) j = v_iv (n_v vs 1)) ∧ (j ≠ v_iv (n_v vs 22) → w_ei ws (w_ar ws (n_v vs 0) 2) j = w_ei w1 (w_ar ws (n_v vs 0) 2) j) := fun j hj => ⟨fun h => by unfold w_ei; rw [s1.1, if_pos ⟨ad_14.symm, by rw [h]⟩], fun h => by unfold w_ei; rw [s1.1, if_neg (fun e => h (by have := e.2; omega))]⟩
  have hE_0_2_2 : ∀ j : Int, 0 ≤ j → (j = v_iv (n_v vs 18) → w_ei w1 (w_ar ws (n_v vs 0) 2) j = v_iv (n_v vs 19)) ∧ (j ≠ v_iv (n_v vs 18) → w_ei w1 (w_ar ws (n_v vs 0) 2) j = w_ei w2 (w_ar ws (n_v vs 0) 2) j) := fun j hj => ⟨fun h => by unfold w_ei; rw [s2.1, if_pos ⟨ad_14.symm, by rw [h]⟩], fun h => by unfold w_ei; rw [s2.1, if_neg (fun e => h (by have := e.2; omega))]⟩
  have kz_0_11 : 0 ≤ w_fi ws (n_v vs 0) 11 ∧ w_fi ws (n_v vs 0) 11 ≤ 2000 := tv_rng (th_fd hD hth r0 (g := GG_150) rfl (k := 11) (t := (0, 0, 2000, [])) rfl rfl)
  have kz_0_12 : 0 ≤ w_fi ws (n_v vs 0) 12 ∧ w_fi ws (n_v vs 0) 12 ≤ 4 := tv_rng (th_fd hD hth r0 (g := GG_150) rfl (k := 12) (t := (0, 0, 4, [])) rfl rfl)
  have kz_0_15 : 0 ≤ w_fi ws (n_v vs 0) 15 ∧ w_fi ws (n_v vs 0) 15 ≤ 2000 := tv_rng (th_fd hD hth r0 (g := GG_150) rfl (k := 15) (t := (0, 0, 2000, [])) rfl rfl)
  first | have hJ0 : w_ei w2 (w_ar ws (n_v vs 0) 2) ((w_fi w2 (n_v vs 0) 5 + 1)) = w_ei w2 (w_ar ws (n_v vs 0) 2) ((w_fi ws (n_v vs 0) 5 + 1)) := congrArg _ (show ((w_fi w2 (n_v vs 0) 5 + 1) : Int) = (w_fi ws (n_v vs 0) 5 + 1) from by omega) | skip
  first | have hJ1 : w_ei w2 (w_ar ws (n_v vs 0) 2) ((w_fi w2 (n_v vs 0) 5 + 2)) = w_ei w2 (w_ar ws (n_v vs 0) 2) ((w_fi ws (n_v vs 0) 5 + 2)) := congrArg _ (show ((w_fi w2 (n_v vs 0) 5 + 2) : Int) = (w_fi ws (n_v vs 0) 5 + 2) from by omega) | skip
  first | have hI2 := (hE_0_2_1 ((w_fi ws (n_v vs 0) 5 + 1)) (by omega)).2 (by omega) | have hI2 := (hE_0_2_1 ((w_fi ws (n_v vs 0) 5 + 1)) (by omega)).1 (by omega) | skip
  first | have hI3 := (hE_0_2_2 ((w_fi ws (n_v vs 0) 5 + 1)) (by omega)).2 (by omega) | have hI3 := (hE_0_2_2 ((w_fi ws (n_v vs 0) 5 + 1)) (by omega)).1 (by omega) | skip
  first | have hI4 := (hE_0_2_1 ((w_fi ws (n_v vs 0) 5 + 2)) (by omega)).2 (by omega) | have hI4 := (hE_0_2_1 ((w_fi ws (n_v vs 0) 5 + 2)) (by omega)).1 (by omega) | skip
  first | have hI5 := (hE_0_2_2 ((w_fi ws (n_v vs 0) 5 + 2)) (by omega)).2 (by omega) | have hI5 := (hE_0_2_2 ((w_fi ws (n_v vs 0) 5 + 2)) (by omega)).1 (by omega) | skip
  have kv0 : 0 ≤ w_fi ws (n_v vs 0) 11 ∧ w_fi ws (n_v vs 0) 11 ≤ 2000 := tv_rng (th_fd hD hth r0 (g := GG_150) rfl (k := 11) (t := (0, 0, 2000, [])) rfl rfl)
  obtain ⟨x, ex, hx⟩ := iv_ex (ta := ta) (lo := 0) (hi := 2000) (z := w_fi ws (n_v vs 0) 11) (by omega) (by omega) (by omega) (by omega)
  have ex2 : v_iv (Value.int x) = w_fi ws (n_v vs 0) 11 := ex
  have ex3 : 0 ≤ v_iv (Value.int x) ∧ v_iv (Value.int x) ≤ 2000 := tv_rng hx
  have e_3 : n_v (vs ++ [Value.int x]) 3 = n_v vs 3 := n_v_old (by rw [hl]; decide)
  have e_4 : n_v (vs ++ [Value.int x]) 4 = n_v vs 4 := n_v_old (by rw [hl]; decide)
  have e_5 : n_v (vs ++ [Value.int x]) 5 = n_v vs 5 := n_v_old (by rw [hl]; decide)
  have e_6 : n_v (vs ++ [Value.int x]) 6 = n_v vs 6 := n_v_old (by rw [hl]; decide)
  have e_7 : n_v (vs ++ [Value.int x]) 7 = n_v vs 7 := n_v_old (by rw [hl]; decide)
  have e_23 : n_v (vs ++ [Value.int x]) 23 = Value.int x := n_v_new hl
  have nf0 : fc_1 (20, [7, 5], [50, 1, 1, 1005, 1002, 3, 6, 0, 2, 1, 0, 0, -1, 0, 10, 3, 1, 2, 4, 3, 2, 1, 5, 0, 1, 0, 47]) ws (vs ++ [Value.int x]) := by
    refine ⟨fun n hn => ?_, ?_⟩
    · have hn : n ∈ [7, 5] := hn
      rw [List.length_append, hl]
      simp only [List.mem_cons, List.not_mem_nil, or_false] at hn
      show n < 23 + 1; omega
    · show (v_iv (n_v (vs ++ [Value.int x]) 7) ≤ (-1)) ∨ (w_ei ws (w_ar ws (n_v (vs ++ [Value.int x]) 5) 2) ((w_fi ws (n_v (vs ++ [Value.int x]) 5) 5 + 1)) ≤ 47)
      rw [e_5]
      rw [e_7]
      rw [q5, q7]
      first | omega | grind
  have nf1 : fc_1 (20, [6, 5], [50, 1, 1, 1005, 1002, 0, 6, 4, 2, 1, 0, 0, 1, 3, 1, 2, 4, 3, 2, 1, 5, 0, 2]) ws (vs ++ [Value.int x]) := by
    refine ⟨fun n hn => ?_, ?_⟩
    · have hn : n ∈ [6, 5] := hn
      rw [List.length_append, hl]
      simp only [List.mem_cons, List.not_mem_nil, or_false] at hn
      show n < 23 + 1; omega
    · show (v_iv (n_v (vs ++ [Value.int x]) 6) + 1) ≤ w_ei ws (w_ar ws (n_v (vs ++ [Value.int x]) 5) 2) ((w_fi ws (n_v (vs ++ [Value.int x]) 5) 5 + 2))
      rw [e_5]
      rw [e_6]
      rw [q5, q6]
      first | omega | grind
  have nf2 : fc_1 (20, [23, 5], [30, 0, 1, 0, 0, -1, 1, 11]) ws (vs ++ [Value.int x]) := by
    refine ⟨fun n hn => ?_, ?_⟩
    · have hn : n ∈ [23, 5] := hn
      rw [List.length_append, hl]
      simp only [List.mem_cons, List.not_mem_nil, or_false] at hn
      show n < 23 + 1; omega
    · show 1 * v_iv (n_v (vs ++ [Value.int x]) 23) + ((-1) * w_fi ws (n_v (vs ++ [Value.int x]) 5) 11 + 0) ≤ 0
      rw [e_5]
      rw [e_23]
      rw [q5]
      omega
  have nf3 : fc_1 (23, [3, 23], [0, 1, -1]) ws (vs ++ [Value.int x]) := by
    refine ⟨fun n hn => ?_, ?_⟩
    · have hn : n ∈ [3, 23] := hn
      rw [List.length_append, hl]
      simp only [List.mem_cons, List.not_mem_nil, or_false] at hn
      show n < 23 + 1; omega
    · show 1 * v_iv (n_v (vs ++ [Value.int x]) 3) + ((-1) * v_iv (n_v (vs ++ [Value.int x]) 23) + 0) ≤ 0
      rw [e_3]
      rw [e_23]
      omega
  have nf4 : fc_1 (23, [4, 23], [-1, 1, -1]) ws (vs ++ [Value.int x]) := by
    refine ⟨fun n hn => ?_, ?_⟩
    · have hn : n ∈ [4, 23] := hn
      rw [List.length_append, hl]
      simp only [List.mem_cons, List.not_mem_nil, or_false] at hn
      show n < 23 + 1; omega
    · show 1 * v_iv (n_v (vs ++ [Value.int x]) 4) + ((-1) * v_iv (n_v (vs ++ [Value.int x]) 23) + 0) ≤ (-1)
      rw [e_4]
      rw [e_23]
      omega
  exact ⟨(fun _ h => (by cases h)), [Value.int x], ag_one hx, List.forall_mem_cons.mpr ⟨⟨show (20 : Nat) < 100 from by decide, nf0⟩, List.forall_mem_cons.mpr ⟨⟨show (20 : Nat) < 100 from by decide, nf1⟩, List.forall_mem_cons.mpr ⟨⟨show (20 : Nat) < 100 from by decide, nf2⟩, List.forall_mem_cons.mpr ⟨⟨show (23 : Nat) < 100 from by decide, nf3⟩, List.forall_mem_cons.mpr ⟨⟨show (23 : Nat) < 100 from by decide, nf4⟩, (fun _ h => (by cases h))⟩⟩⟩⟩⟩, (fun _ h => (by cases h))⟩
def o_Mo_met_34 : or_T := (258, 24, [(0, (2, 0, 0, [150])), (1, (0, 0, 7, [])), (2, (0, -1, 23, [])), (3, (0, 0, 2000, [])), (4, (0, 0, 2000, [])), (5, (2, 0, 0, [150])), (6, (0, 0, 7, [])), (7, (0, -1, 23, [])), (8, (0, 0, 23, [])), (23, (0, 0, 2000, []))], [(20, [7, 5], [50, 1, 1, 1005, 1002, 3, 6, 0, 2, 1, 0, 0, -1, 0, 10, 3, 1, 2, 4, 3, 2, 1, 5, 0, 1, 0, 47]), (20, [6, 5], [50, 1, 1, 1005, 1002, 0, 6, 4, 2, 1, 0, 0, 1, 3, 1, 2, 4, 3, 2, 1, 5, 0, 2]), (23, [3, 23], [0, 1, -1]), (23, [4, 23], [-1, 1, -1]), (24, [0, 5], []), (24, [1, 6], []), (24, [2, 7], []), (20, [5, 5], [30, 0, 1, 1, 15, -1, 1, 11]), (20, [5], [50, 3, 0, 12, 11, 15, 2, 21, 4, 7, 1, 3, 2, 0, 12, 0, 1, 0, 3, 2, 0, 11, 4, 3, 2, 0, 15, 0, 8, 3, 7, 1, 3, 2, 0, 12, 0, 0, 0, 7, 4, 3, 2, 0, 15, 0, 1, 2, 0, 11]), (20, [23, 5], [30, 0, 1, 0, 0, -1, 1, 15]), (102, [23], [0, 13011, 13012, 13013, 13014, 13015]), (23, [3, 23], [0, 1, -1]), (23, [4, 23], [-1, 1, -1])], [], [], [(20, [0, 0], [30, 0, 1, 1, 15, -1, 1, 11]), (20, [0], [50, 3, 0, 12, 11, 15, 2, 21, 4, 7, 1, 3, 2, 0, 12, 0, 1, 0, 3, 2, 0, 11, 4, 3, 2, 0, 15, 0, 8, 3, 7, 1, 3, 2, 0, 12, 0, 0, 0, 7, 4, 3, 2, 0, 15, 0, 1, 2, 0, 11]), (20, [3, 0], [30, 0, 1, 0, 0, -1, 1, 11]), (20, [0, 3], [50, 3, 0, 8, 12, 11, 3, 7, 0, 2, 0, 1, 2, 0, 8, 3, 7, 1, 3, 2, 0, 12, 0, 0, 0, 6, 4, 2, 1, 1, 0, 1, 2, 0, 11]), (20, [0, 4], [50, 2, 0, 8, 11, 3, 7, 0, 2, 0, 1, 2, 0, 8, 0, 6, 4, 2, 1, 1, 0, 1, 2, 0, 11]), (20, [0, 8], [31, 1, -1, -1, 1, 8, 0, -1, 0, 0]), (20, [0, 2], [50, 2, 1, 8, 5, 2, 3, 7, 0, 2, 0, 1, 2, 0, 8, 3, 6, 0, 2, 1, 1, 0, -1, 0, 10, 3, 0, 2, 4, 3, 2, 0, 5, 0, 1, 0, 47]), (20, [1, 0], [50, 1, 1, 1005, 1002, 0, 6, 4, 2, 1, 0, 0, 1, 3, 1, 2, 4, 3, 2, 1, 5, 0, 2])], [], [(1, 2, -4294967296, 8), (1, 3, -4294967296, 7), (1, 4, -4294967296, 7), (1, 6, -4294967296, 0), (1, 7, -4294967296, 8), (1, 8, -4294967296, 7), (2, 1, -4294967296, 23), (2, 3, -4294967296, 23), (2, 4, -4294967296, 23), (2, 6, -4294967296, 23), (2, 7, -4294967296, 0), (2, 8, -4294967296, 23), (3, 1, -4294967296, 2000), (3, 2, -4294967296, 2001), (3, 4, -4294967296, 2000), (3, 6, -4294967296, 2000), (3, 7, -4294967296, 2001), (3, 8, -4294967296, 2000), (4, 1, -4294967296, 2000), (4, 2, -4294967296, 2001), (4, 3, -4294967296, 2000), (4, 6, -4294967296, 2000), (4, 7, -4294967296, 2001), (4, 8, -4294967296, 2000), (6, 1, -4294967296, 0), (6, 2, -4294967296, 8), (6, 3, -4294967296, 7), (6, 4, -4294967296, 7), (6, 7, -4294967296, 8), (6, 8, -4294967296, 7), (7, 1, -4294967296, 23), (7, 2, -4294967296, 0), (7, 3, -4294967296, 23), (7, 4, -4294967296, 23), (7, 6, -4294967296, 23), (7, 8, -4294967296, 23), (8, 1, -4294967296, 23), (8, 2, -4294967296, 24), (8, 3, -4294967296, 23), (8, 4, -4294967296, 23), (8, 6, -4294967296, 23), (8, 7, -4294967296, 24)])
theorem oo_Mo_met_34 {kA : Nat → ClassId} : or_ok kA GG o_Mo_met_34 := by
  intro A ta ws vs hD hth hl hk hds hf
  have hl : vs.length = 24 := hl
  have hk : ∀ q ∈ ([(0, (2, 0, 0, [150])), (1, (0, 0, 7, [])), (2, (0, -1, 23, [])), (3, (0, 0, 2000, [])), (4, (0, 0, 2000, [])), (5, (2, 0, 0, [150])), (6, (0, 0, 7, [])), (7, (0, -1, 23, [])), (8, (0, 0, 23, [])), (23, (0, 0, 2000, []))] : List (Nat × tv_T)), tv_ok ta q.2 (n_v vs q.1) := hk
  obtain ⟨t0, hk⟩ := List.forall_mem_cons.mp hk
  have t0 : tv_ok ta (2, 0, 0, [150]) (n_v vs 0) := t0
  have r0 : ta (v_ad (n_v vs 0)) = some 150 := tv_rg t0
  obtain ⟨t1, hk⟩ := List.forall_mem_cons.mp hk
  have t1 : tv_ok ta (0, 0, 7, []) (n_v vs 1) := t1
  have k1 : 0 ≤ v_iv (n_v vs 1) ∧ v_iv (n_v vs 1) ≤ 7 := tv_rng t1
  obtain ⟨t2, hk⟩ := List.forall_mem_cons.mp hk
  have t2 : tv_ok ta (0, -1, 23, []) (n_v vs 2) := t2
  have k2 : (-1) ≤ v_iv (n_v vs 2) ∧ v_iv (n_v vs 2) ≤ 23 := tv_rng t2
  obtain ⟨t3, hk⟩ := List.forall_mem_cons.mp hk
  have t3 : tv_ok ta (0, 0, 2000, []) (n_v vs 3) := t3
  have k3 : 0 ≤ v_iv (n_v vs 3) ∧ v_iv (n_v vs 3) ≤ 2000 := tv_rng t3
  obtain ⟨t4, hk⟩ := List.forall_mem_cons.mp hk
  have t4 : tv_ok ta (0, 0, 2000, []) (n_v vs 4) := t4
  have k4 : 0 ≤ v_iv (n_v vs 4) ∧ v_iv (n_v vs 4) ≤ 2000 := tv_rng t4
  obtain ⟨t5, hk⟩ := List.forall_mem_cons.mp hk
  have t5 : tv_ok ta (2, 0, 0, [150]) (n_v vs 5) := t5
  have r5 : ta (v_ad (n_v vs 5)) = some 150 := tv_rg t5
  obtain ⟨t6, hk⟩ := List.forall_mem_cons.mp hk
  have t6 : tv_ok ta (0, 0, 7, []) (n_v vs 6) := t6
  have k6 : 0 ≤ v_iv (n_v vs 6) ∧ v_iv (n_v vs 6) ≤ 7 := tv_rng t6
  obtain ⟨t7, hk⟩ := List.forall_mem_cons.mp hk
  have t7 : tv_ok ta (0, -1, 23, []) (n_v vs 7) := t7
  have k7 : (-1) ≤ v_iv (n_v vs 7) ∧ v_iv (n_v vs 7) ≤ 23 := tv_rng t7
  obtain ⟨t8, hk⟩ := List.forall_mem_cons.mp hk
  have t8 : tv_ok ta (0, 0, 23, []) (n_v vs 8) := t8
  have k8 : 0 ≤ v_iv (n_v vs 8) ∧ v_iv (n_v vs 8) ≤ 23 := tv_rng t8
  obtain ⟨t23, hk⟩ := List.forall_mem_cons.mp hk
  have t23 : tv_ok ta (0, 0, 2000, []) (n_v vs 23) := t23
  have k23 : 0 ≤ v_iv (n_v vs 23) ∧ v_iv (n_v vs 23) ≤ 2000 := tv_rng t23
  have hds : ∀ q ∈ ([(1, 2, -4294967296, 8), (1, 3, -4294967296, 7), (1, 4, -4294967296, 7), (1, 6, -4294967296, 0), (1, 7, -4294967296, 8), (1, 8, -4294967296, 7), (2, 1, -4294967296, 23), (2, 3, -4294967296, 23), (2, 4, -4294967296, 23), (2, 6, -4294967296, 23), (2, 7, -4294967296, 0), (2, 8, -4294967296, 23), (3, 1, -4294967296, 2000), (3, 2, -4294967296, 2001), (3, 4, -4294967296, 2000), (3, 6, -4294967296, 2000), (3, 7, -4294967296, 2001), (3, 8, -4294967296, 2000), (4, 1, -4294967296, 2000), (4, 2, -4294967296, 2001), (4, 3, -4294967296, 2000), (4, 6, -4294967296, 2000), (4, 7, -4294967296, 2001), (4, 8, -4294967296, 2000), (6, 1, -4294967296, 0), (6, 2, -4294967296, 8), (6, 3, -4294967296, 7), (6, 4, -4294967296, 7), (6, 7, -4294967296, 8), (6, 8, -4294967296, 7), (7, 1, -4294967296, 23), (7, 2, -4294967296, 0), (7, 3, -4294967296, 23), (7, 4, -4294967296, 23), (7, 6, -4294967296, 23), (7, 8, -4294967296, 23), (8, 1, -4294967296, 23), (8, 2, -4294967296, 24), (8, 3, -4294967296, 23), (8, 4, -4294967296, 23), (8, 6, -4294967296, 23), (8, 7, -4294967296, 24)] : List of_T), n_iv vs q.2.1 + q.2.2.1 ≤ n_iv vs q.1 ∧ n_iv vs q.1 ≤ n_iv vs q.2.1 + q.2.2.2 := hds
  obtain ⟨d0, hds⟩ := List.forall_mem_cons.mp hds
  have d0 : v_iv (n_v vs 2) + (-4294967296) ≤ v_iv (n_v vs 1) ∧ v_iv (n_v vs 1) ≤ v_iv (n_v vs 2) + 8 := d0
  obtain ⟨d1, hds⟩ := List.forall_mem_cons.mp hds
  have d1 : v_iv (n_v vs 3) + (-4294967296) ≤ v_iv (n_v vs 1) ∧ v_iv (n_v vs 1) ≤ v_iv (n_v vs 3) + 7 := d1
  obtain ⟨d2, hds⟩ := List.forall_mem_cons.mp hds
  have d2 : v_iv (n_v vs 4) + (-4294967296) ≤ v_iv (n_v vs 1) ∧ v_iv (n_v vs 1) ≤ v_iv (n_v vs 4) + 7 := d2
  obtain ⟨d3, hds⟩ := List.forall_mem_cons.mp hds
  have d3 : v_iv (n_v vs 6) + (-4294967296) ≤ v_iv (n_v vs 1) ∧ v_iv (n_v vs 1) ≤ v_iv (n_v vs 6) + 0 := d3
  obtain ⟨d4, hds⟩ := List.forall_mem_cons.mp hds
  have d4 : v_iv (n_v vs 7) + (-4294967296) ≤ v_iv (n_v vs 1) ∧ v_iv (n_v vs 1) ≤ v_iv (n_v vs 7) + 8 := d4
  obtain ⟨d5, hds⟩ := List.forall_mem_cons.mp hds
  have d5 : v_iv (n_v vs 8) + (-4294967296) ≤ v_iv (n_v vs 1) ∧ v_iv (n_v vs 1) ≤ v_iv (n_v vs 8) + 7 := d5
  obtain ⟨d6, hds⟩ := List.forall_mem_cons.mp hds
  have d6 : v_iv (n_v vs 1) + (-4294967296) ≤ v_iv (n_v vs 2) ∧ v_iv (n_v vs 2) ≤ v_iv (n_v vs 1) + 23 := d6
  obtain ⟨d7, hds⟩ := List.forall_mem_cons.mp hds
  have d7 : v_iv (n_v vs 3) + (-4294967296) ≤ v_iv (n_v vs 2) ∧ v_iv (n_v vs 2) ≤ v_iv (n_v vs 3) + 23 := d7
  obtain ⟨d8, hds⟩ := List.forall_mem_cons.mp hds
  have d8 : v_iv (n_v vs 4) + (-4294967296) ≤ v_iv (n_v vs 2) ∧ v_iv (n_v vs 2) ≤ v_iv (n_v vs 4) + 23 := d8
  obtain ⟨d9, hds⟩ := List.forall_mem_cons.mp hds
  have d9 : v_iv (n_v vs 6) + (-4294967296) ≤ v_iv (n_v vs 2) ∧ v_iv (n_v vs 2) ≤ v_iv (n_v vs 6) + 23 := d9
  obtain ⟨d10, hds⟩ := List.forall_mem_cons.mp hds
  have d10 : v_iv (n_v vs 7) + (-4294967296) ≤ v_iv (n_v vs 2) ∧ v_iv (n_v vs 2) ≤ v_iv (n_v vs 7) + 0 := d10
  obtain ⟨d11, hds⟩ := List.forall_mem_cons.mp hds
  have d11 : v_iv (n_v vs 8) + (-4294967296) ≤ v_iv (n_v vs 2) ∧ v_iv (n_v vs 2) ≤ v_iv (n_v vs 8) + 23 := d11
  obtain ⟨d12, hds⟩ := List.forall_mem_cons.mp hds
  have d12 : v_iv (n_v vs 1) + (-4294967296) ≤ v_iv (n_v vs 3) ∧ v_iv (n_v vs 3) ≤ v_iv (n_v vs 1) + 2000 := d12
  obtain ⟨d13, hds⟩ := List.forall_mem_cons.mp hds
  have d13 : v_iv (n_v vs 2) + (-4294967296) ≤ v_iv (n_v vs 3) ∧ v_iv (n_v vs 3) ≤ v_iv (n_v vs 2) + 2001 := d13
  obtain ⟨d14, hds⟩ := List.forall_mem_cons.mp hds
  have d14 : v_iv (n_v vs 4) + (-4294967296) ≤ v_iv (n_v vs 3) ∧ v_iv (n_v vs 3) ≤ v_iv (n_v vs 4) + 2000 := d14
  obtain ⟨d15, hds⟩ := List.forall_mem_cons.mp hds
  have d15 : v_iv (n_v vs 6) + (-4294967296) ≤ v_iv (n_v vs 3) ∧ v_iv (n_v vs 3) ≤ v_iv (n_v vs 6) + 2000 := d15
  obtain ⟨d16, hds⟩ := List.forall_mem_cons.mp hds
  have d16 : v_iv (n_v vs 7) + (-4294967296) ≤ v_iv (n_v vs 3) ∧ v_iv (n_v vs 3) ≤ v_iv (n_v vs 7) + 2001 := d16
  obtain ⟨d17, hds⟩ := List.forall_mem_cons.mp hds
  have d17 : v_iv (n_v vs 8) + (-4294967296) ≤ v_iv (n_v vs 3) ∧ v_iv (n_v vs 3) ≤ v_iv (n_v vs 8) + 2000 := d17
  obtain ⟨d18, hds⟩ := List.forall_mem_cons.mp hds
  have d18 : v_iv (n_v vs 1) + (-4294967296) ≤ v_iv (n_v vs 4) ∧ v_iv (n_v vs 4) ≤ v_iv (n_v vs 1) + 2000 := d18
  obtain ⟨d19, hds⟩ := List.forall_mem_cons.mp hds
  have d19 : v_iv (n_v vs 2) + (-4294967296) ≤ v_iv (n_v vs 4) ∧ v_iv (n_v vs 4) ≤ v_iv (n_v vs 2) + 2001 := d19
  obtain ⟨d20, hds⟩ := List.forall_mem_cons.mp hds
  have d20 : v_iv (n_v vs 3) + (-4294967296) ≤ v_iv (n_v vs 4) ∧ v_iv (n_v vs 4) ≤ v_iv (n_v vs 3) + 2000 := d20
  obtain ⟨d21, hds⟩ := List.forall_mem_cons.mp hds
  have d21 : v_iv (n_v vs 6) + (-4294967296) ≤ v_iv (n_v vs 4) ∧ v_iv (n_v vs 4) ≤ v_iv (n_v vs 6) + 2000 := d21
  obtain ⟨d22, hds⟩ := List.forall_mem_cons.mp hds
  have d22 : v_iv (n_v vs 7) + (-4294967296) ≤ v_iv (n_v vs 4) ∧ v_iv (n_v vs 4) ≤ v_iv (n_v vs 7) + 2001 := d22
  obtain ⟨d23, hds⟩ := List.forall_mem_cons.mp hds
  have d23 : v_iv (n_v vs 8) + (-4294967296) ≤ v_iv (n_v vs 4) ∧ v_iv (n_v vs 4) ≤ v_iv (n_v vs 8) + 2000 := d23
  obtain ⟨d24, hds⟩ := List.forall_mem_cons.mp hds
  have d24 : v_iv (n_v vs 1) + (-4294967296) ≤ v_iv (n_v vs 6) ∧ v_iv (n_v vs 6) ≤ v_iv (n_v vs 1) + 0 := d24
  obtain ⟨d25, hds⟩ := List.forall_mem_cons.mp hds
  have d25 : v_iv (n_v vs 2) + (-4294967296) ≤ v_iv (n_v vs 6) ∧ v_iv (n_v vs 6) ≤ v_iv (n_v vs 2) + 8 := d25
  obtain ⟨d26, hds⟩ := List.forall_mem_cons.mp hds
  have d26 : v_iv (n_v vs 3) + (-4294967296) ≤ v_iv (n_v vs 6) ∧ v_iv (n_v vs 6) ≤ v_iv (n_v vs 3) + 7 := d26
  obtain ⟨d27, hds⟩ := List.forall_mem_cons.mp hds
  have d27 : v_iv (n_v vs 4) + (-4294967296) ≤ v_iv (n_v vs 6) ∧ v_iv (n_v vs 6) ≤ v_iv (n_v vs 4) + 7 := d27
  obtain ⟨d28, hds⟩ := List.forall_mem_cons.mp hds
  have d28 : v_iv (n_v vs 7) + (-4294967296) ≤ v_iv (n_v vs 6) ∧ v_iv (n_v vs 6) ≤ v_iv (n_v vs 7) + 8 := d28
  obtain ⟨d29, hds⟩ := List.forall_mem_cons.mp hds
  have d29 : v_iv (n_v vs 8) + (-4294967296) ≤ v_iv (n_v vs 6) ∧ v_iv (n_v vs 6) ≤ v_iv (n_v vs 8) + 7 := d29
  obtain ⟨d30, hds⟩ := List.forall_mem_cons.mp hds
  have d30 : v_iv (n_v vs 1) + (-4294967296) ≤ v_iv (n_v vs 7) ∧ v_iv (n_v vs 7) ≤ v_iv (n_v vs 1) + 23 := d30
  obtain ⟨d31, hds⟩ := List.forall_mem_cons.mp hds
  have d31 : v_iv (n_v vs 2) + (-4294967296) ≤ v_iv (n_v vs 7) ∧ v_iv (n_v vs 7) ≤ v_iv (n_v vs 2) + 0 := d31
  obtain ⟨d32, hds⟩ := List.forall_mem_cons.mp hds
  have d32 : v_iv (n_v vs 3) + (-4294967296) ≤ v_iv (n_v vs 7) ∧ v_iv (n_v vs 7) ≤ v_iv (n_v vs 3) + 23 := d32
  obtain ⟨d33, hds⟩ := List.forall_mem_cons.mp hds
  have d33 : v_iv (n_v vs 4) + (-4294967296) ≤ v_iv (n_v vs 7) ∧ v_iv (n_v vs 7) ≤ v_iv (n_v vs 4) + 23 := d33
  obtain ⟨d34, hds⟩ := List.forall_mem_cons.mp hds
  have d34 : v_iv (n_v vs 6) + (-4294967296) ≤ v_iv (n_v vs 7) ∧ v_iv (n_v vs 7) ≤ v_iv (n_v vs 6) + 23 := d34
  obtain ⟨d35, hds⟩ := List.forall_mem_cons.mp hds
  have d35 : v_iv (n_v vs 8) + (-4294967296) ≤ v_iv (n_v vs 7) ∧ v_iv (n_v vs 7) ≤ v_iv (n_v vs 8) + 23 := d35
  obtain ⟨d36, hds⟩ := List.forall_mem_cons.mp hds
  have d36 : v_iv (n_v vs 1) + (-4294967296) ≤ v_iv (n_v vs 8) ∧ v_iv (n_v vs 8) ≤ v_iv (n_v vs 1) + 23 := d36
  obtain ⟨d37, hds⟩ := List.forall_mem_cons.mp hds
  have d37 : v_iv (n_v vs 2) + (-4294967296) ≤ v_iv (n_v vs 8) ∧ v_iv (n_v vs 8) ≤ v_iv (n_v vs 2) + 24 := d37
  obtain ⟨d38, hds⟩ := List.forall_mem_cons.mp hds
  have d38 : v_iv (n_v vs 3) + (-4294967296) ≤ v_iv (n_v vs 8) ∧ v_iv (n_v vs 8) ≤ v_iv (n_v vs 3) + 23 := d38
  obtain ⟨d39, hds⟩ := List.forall_mem_cons.mp hds
  have d39 : v_iv (n_v vs 4) + (-4294967296) ≤ v_iv (n_v vs 8) ∧ v_iv (n_v vs 8) ≤ v_iv (n_v vs 4) + 23 := d39
  obtain ⟨d40, hds⟩ := List.forall_mem_cons.mp hds
  have d40 : v_iv (n_v vs 6) + (-4294967296) ≤ v_iv (n_v vs 8) ∧ v_iv (n_v vs 8) ≤ v_iv (n_v vs 6) + 23 := d40
  obtain ⟨d41, hds⟩ := List.forall_mem_cons.mp hds
  have d41 : v_iv (n_v vs 7) + (-4294967296) ≤ v_iv (n_v vs 8) ∧ v_iv (n_v vs 8) ≤ v_iv (n_v vs 7) + 24 := d41
  have hf : fc_ok [(20, [7, 5], [50, 1, 1, 1005, 1002, 3, 6, 0, 2, 1, 0, 0, -1, 0, 10, 3, 1, 2, 4, 3, 2, 1, 5, 0, 1, 0, 47]), (20, [6, 5], [50, 1, 1, 1005, 1002, 0, 6, 4, 2, 1, 0, 0, 1, 3, 1, 2, 4, 3, 2, 1, 5, 0, 2]), (23, [3, 23], [0, 1, -1]), (23, [4, 23], [-1, 1, -1]), (24, [0, 5], []), (24, [1, 6], []), (24, [2, 7], []), (20, [5, 5], [30, 0, 1, 1, 15, -1, 1, 11]), (20, [5], [50, 3, 0, 12, 11, 15, 2, 21, 4, 7, 1, 3, 2, 0, 12, 0, 1, 0, 3, 2, 0, 11, 4, 3, 2, 0, 15, 0, 8, 3, 7, 1, 3, 2, 0, 12, 0, 0, 0, 7, 4, 3, 2, 0, 15, 0, 1, 2, 0, 11]), (20, [23, 5], [30, 0, 1, 0, 0, -1, 1, 15]), (102, [23], [0, 13011, 13012, 13013, 13014, 13015]), (23, [3, 23], [0, 1, -1]), (23, [4, 23], [-1, 1, -1])] ta ws vs := hf
  obtain ⟨f0, hf⟩ := fc_un (show (20 : Nat) < 100 from by decide) hf
  have f0 : (v_iv (n_v vs 7) ≤ (-1)) ∨ (w_ei ws (w_ar ws (n_v vs 5) 2) ((w_fi ws (n_v vs 5) 5 + 1)) ≤ 47) := f0
  obtain ⟨f1, hf⟩ := fc_un (show (20 : Nat) < 100 from by decide) hf
  have f1 : (v_iv (n_v vs 6) + 1) ≤ w_ei ws (w_ar ws (n_v vs 5) 2) ((w_fi ws (n_v vs 5) 5 + 2)) := f1
  obtain ⟨f2, hf⟩ := fc_un (show (23 : Nat) < 100 from by decide) hf
  have f2 : 1 * v_iv (n_v vs 3) + ((-1) * v_iv (n_v vs 23) + 0) ≤ 0 := f2
  obtain ⟨f3, hf⟩ := fc_un (show (23 : Nat) < 100 from by decide) hf
  have f3 : 1 * v_iv (n_v vs 4) + ((-1) * v_iv (n_v vs 23) + 0) ≤ (-1) := f3
  obtain ⟨f4, hf⟩ := fc_un (show (24 : Nat) < 100 from by decide) hf
  have f4 : n_v vs 0 = n_v vs 5 := f4
  obtain ⟨f5, hf⟩ := fc_un (show (24 : Nat) < 100 from by decide) hf
  have f5 : n_v vs 1 = n_v vs 6 := f5
  obtain ⟨f6, hf⟩ := fc_un (show (24 : Nat) < 100 from by decide) hf
  have f6 : n_v vs 2 = n_v vs 7 := f6
  obtain ⟨f7, hf⟩ := fc_un (show (20 : Nat) < 100 from by decide) hf
  have f7 : 1 * w_fi ws (n_v vs 5) 15 + ((-1) * w_fi ws (n_v vs 5) 11 + 0) ≤ 0 := f7
  obtain ⟨f8, hf⟩ := fc_un (show (20 : Nat) < 100 from by decide) hf
  have f8 : ((w_fi ws (n_v vs 5) 12 = 1) → (w_fi ws (n_v vs 5) 11 ≤ (w_fi ws (n_v vs 5) 15 + 8))) ∧ ((w_fi ws (n_v vs 5) 12 = 0) ∨ ((w_fi ws (n_v vs 5) 15 + 1) ≤ w_fi ws (n_v vs 5) 11)) := f8
  obtain ⟨f9, hf⟩ := fc_un (show (20 : Nat) < 100 from by decide) hf
  have f9 : 1 * v_iv (n_v vs 23) + ((-1) * w_fi ws (n_v vs 5) 15 + 0) ≤ 0 := f9
  obtain ⟨ta1, w1, le1, ⟨_, s1⟩, hf⟩ := fc_us (show ¬ (102 : Nat) < 100 from by decide) hf
  obtain ⟨f11, hf⟩ := fc_un (show (23 : Nat) < 100 from by decide) hf
  have f11 : 1 * v_iv (n_v vs 3) + ((-1) * v_iv (n_v vs 23) + 0) ≤ 0 := f11
  obtain ⟨f12, hf⟩ := fc_un (show (23 : Nat) < 100 from by decide) hf
  have f12 : 1 * v_iv (n_v vs 4) + ((-1) * v_iv (n_v vs 23) + 0) ≤ (-1) := f12
  have q5 : n_v vs 5 = n_v vs 0 := f4.symm
  have q6 : n_v vs 6 = n_v vs 1 := f5.symm
  have q7 : n_v vs 7 = n_v vs 2 := f6.symm
  rw [q5] at f0
  rw [q7] at f0
  rw [q5] at f1
  rw [q6] at f1
  rw [q5] at f7
  rw [q5] at f8
  rw [q5] at f9
  have cr_0_2 : ta (w_ar ws (n_v vs 0) 2) = some 152 := tv_rg (th_fd hD hth r0 (g := GG_150) rfl (k := 2) (t := (2, 0, 0, [152])) rfl rfl)
  have kz_0_8 : 0 ≤ w_fi ws (n_v vs 0) 8 ∧ w_fi ws (n_v vs 0) 8 ≤ 5 := tv_rng (th_fd hD hth r0 (g := GG_150) rfl (k := 8) (t := (0, 0, 5, [])) rfl rfl)
  have kz_0_11 : 0 ≤ w_fi ws (n_v vs 0) 11 ∧ w_fi ws (n_v vs 0) 11 ≤ 2000 := tv_rng (th_fd hD hth r0 (g := GG_150) rfl (k := 11) (t := (0, 0, 2000, [])) rfl rfl)
  have kz_0_12 : 0 ≤ w_fi ws (n_v vs 0) 12 ∧ w_fi ws (n_v vs 0) 12 ≤ 4 := tv_rng (th_fd hD hth r0 (g := GG_150) rfl (k := 12) (t := (0, 0, 4, [])) rfl rfl)
  have kz_0_15 : 0 ≤ w_fi ws (n_v vs 0) 15 ∧ w_fi ws (n_v vs 0) 15 ≤ 2000 := tv_rng (th_fd hD hth r0 (g := GG_150) rfl (k := 15) (t := (0, 0, 2000, [])) rfl rfl)
  have nf0 : fc_1 (20, [0, 0], [30, 0, 1, 1, 15, -1, 1, 11]) ws (vs) := by
    refine ⟨fun n hn => ?_, ?_⟩
    · have hn : n ∈ [0, 0] := hn
      rw [hl]
      simp only [List.mem_cons, List.not_mem_nil, or_false] at hn
      show n < 24; omega
    · show 1 * w_fi ws (n_v vs 0) 15 + ((-1) * w_fi ws (n_v vs 0) 11 + 0) ≤ 0
      omega
  have nf1 : fc_1 (20, [0], [50, 3, 0, 12, 11, 15, 2, 21, 4, 7, 1, 3, 2, 0, 12, 0, 1, 0, 3, 2, 0, 11, 4, 3, 2, 0, 15, 0, 8, 3, 7, 1, 3, 2, 0, 12, 0, 0, 0, 7, 4, 3, 2, 0, 15, 0, 1, 2, 0, 11]) ws (vs) := by
    refine ⟨fun n hn => ?_, ?_⟩
    · have hn : n ∈ [0] := hn
      rw [hl]
      simp only [List.mem_cons, List.not_mem_nil, or_false] at hn
      show n < 24; omega
    · show ((w_fi ws (n_v vs 0) 12 = 1) → (w_fi ws (n_v vs 0) 11 ≤ (w_fi ws (n_v vs 0) 15 + 8))) ∧ ((w_fi ws (n_v vs 0) 12 = 0) ∨ ((w_fi ws (n_v vs 0) 15 + 1) ≤ w_fi ws (n_v vs 0) 11))
      first | omega | grind
  have nf2 : fc_1 (20, [3, 0], [30, 0, 1, 0, 0, -1, 1, 11]) ws (vs) := by
    refine ⟨fun n hn => ?_, ?_⟩
    · have hn : n ∈ [3, 0] := hn
      rw [hl]
      simp only [List.mem_cons, List.not_mem_nil, or_false] at hn
      show n < 24; omega
    · show 1 * v_iv (n_v vs 3) + ((-1) * w_fi ws (n_v vs 0) 11 + 0) ≤ 0
      omega
  have nf3 : fc_1 (20, [0, 3], [50, 3, 0, 8, 12, 11, 3, 7, 0, 2, 0, 1, 2, 0, 8, 3, 7, 1, 3, 2, 0, 12, 0, 0, 0, 6, 4, 2, 1, 1, 0, 1, 2, 0, 11]) ws (vs) := by
    refine ⟨fun n hn => ?_, ?_⟩
    · have hn : n ∈ [0, 3] := hn
      rw [hl]
      simp only [List.mem_cons, List.not_mem_nil, or_false] at hn
      show n < 24; omega
    · show (1 ≤ w_fi ws (n_v vs 0) 8) ∨ ((w_fi ws (n_v vs 0) 12 = 0) ∨ ((v_iv (n_v vs 3) + 1) ≤ w_fi ws (n_v vs 0) 11))
      first | omega | grind
  have nf4 : fc_1 (20, [0, 4], [50, 2, 0, 8, 11, 3, 7, 0, 2, 0, 1, 2, 0, 8, 0, 6, 4, 2, 1, 1, 0, 1, 2, 0, 11]) ws (vs) := by
    refine ⟨fun n hn => ?_, ?_⟩
    · have hn : n ∈ [0, 4] := hn
      rw [hl]
      simp only [List.mem_cons, List.not_mem_nil, or_false] at hn
      show n < 24; omega
    · show (1 ≤ w_fi ws (n_v vs 0) 8) ∨ ((v_iv (n_v vs 4) + 1) ≤ w_fi ws (n_v vs 0) 11)
      first | omega | grind
  have nf5 : fc_1 (20, [0, 8], [31, 1, -1, -1, 1, 8, 0, -1, 0, 0]) ws (vs) := by
    refine ⟨fun n hn => ?_, ?_⟩
    · have hn : n ∈ [0, 8] := hn
      rw [hl]
      simp only [List.mem_cons, List.not_mem_nil, or_false] at hn
      show n < 24; omega
    · show ((-1) * w_fi ws (n_v vs 0) 8 + 0 ≤ (-1)) ∨ ((-1) * v_iv (n_v vs 8) + 0 ≤ 0)
      omega
  have nf6 : fc_1 (20, [0, 2], [50, 2, 1, 8, 5, 2, 3, 7, 0, 2, 0, 1, 2, 0, 8, 3, 6, 0, 2, 1, 1, 0, -1, 0, 10, 3, 0, 2, 4, 3, 2, 0, 5, 0, 1, 0, 47]) ws (vs) := by
    refine ⟨fun n hn => ?_, ?_⟩
    · have hn : n ∈ [0, 2] := hn
      rw [hl]
      simp only [List.mem_cons, List.not_mem_nil, or_false] at hn
      show n < 24; omega
    · show (1 ≤ w_fi ws (n_v vs 0) 8) ∨ ((v_iv (n_v vs 2) ≤ (-1)) ∨ (w_ei ws (w_ar ws (n_v vs 0) 2) ((w_fi ws (n_v vs 0) 5 + 1)) ≤ 47))
      first | omega | grind
  have nf7 : fc_1 (20, [1, 0], [50, 1, 1, 1005, 1002, 0, 6, 4, 2, 1, 0, 0, 1, 3, 1, 2, 4, 3, 2, 1, 5, 0, 2]) ws (vs) := by
    refine ⟨fun n hn => ?_, ?_⟩
    · have hn : n ∈ [1, 0] := hn
      rw [hl]
      simp only [List.mem_cons, List.not_mem_nil, or_false] at hn
      show n < 24; omega
    · show (v_iv (n_v vs 1) + 1) ≤ w_ei ws (w_ar ws (n_v vs 0) 2) ((w_fi ws (n_v vs 0) 5 + 2))
      first | omega | grind
  refine ⟨(fun _ h => (by cases h)), [], trivial, ?_, (fun _ h => (by cases h))⟩
  rw [List.append_nil]
  exact List.forall_mem_cons.mpr ⟨⟨show (20 : Nat) < 100 from by decide, nf0⟩, List.forall_mem_cons.mpr ⟨⟨show (20 : Nat) < 100 from by decide, nf1⟩, List.forall_mem_cons.mpr ⟨⟨show (20 : Nat) < 100 from by decide, nf2⟩, List.forall_mem_cons.mpr ⟨⟨show (20 : Nat) < 100 from by decide, nf3⟩, List.forall_mem_cons.mpr ⟨⟨show (20 : Nat) < 100 from by decide, nf4⟩, List.forall_mem_cons.mpr ⟨⟨show (20 : Nat) < 100 from by decide, nf5⟩, List.forall_mem_cons.mpr ⟨⟨show (20 : Nat) < 100 from by decide, nf6⟩, List.forall_mem_cons.mpr ⟨⟨show (20 : Nat) < 100 from by decide, nf7⟩, (fun _ h => (by cases h))⟩⟩⟩⟩⟩⟩⟩⟩
def o_Mo_met_35 : or_T := (202, 21, [(0, (2, 0, 0, [150])), (1, (0, 0, 7, [])), (2, (0, -1, 23, [])), (3, (0, 0, 2000, [])), (4, (0, 0, 2000, [])), (5, (2, 0, 0, [150])), (6, (0, 0, 7, [])), (7, (0, -1, 23, [])), (10, (0, 0, 8, [])), (11, (0, 1, 2000, [])), (12, (0, 0, 2000, [])), (13, (0, 1, 2000, [])), (14, (2, 0, 0, [152])), (15, (0, 0, 66297, []))], [(9, [15, 5], [5]), (9, [14, 5], [2]), (7, [10, 13], [2]), (2, [13, 11, 12], []), (9, [12, 5], [15]), (9, [11, 5], [11]), (20, [5, 5], [30, 0, 1, 1, 15, -1, 1, 11]), (20, [5], [50, 3, 0, 12, 11, 15, 2, 21, 4, 7, 1, 3, 2, 0, 12, 0, 1, 0, 3, 2, 0, 11, 4, 3, 2, 0, 15, 0, 8, 3, 7, 1, 3, 2, 0, 12, 0, 0, 0, 7, 4, 3, 2, 0, 15, 0, 1, 2, 0, 11]), (20, [3, 5], [30, 0, 1, 0, 0, -1, 1, 11]), (20, [4, 5], [30, -1, 1, 0, 0, -1, 1, 11]), (20, [5], [50, 1, 0, 12, 1, 3, 2, 0, 12, 0, 1]), (20, [7, 5], [50, 1, 1, 1005, 1002, 3, 6, 0, 2, 1, 0, 0, -1, 0, 10, 3, 1, 2, 4, 3, 2, 1, 5, 0, 1, 0, 47]), (20, [6, 5], [50, 1, 1, 1005, 1002, 0, 6, 4, 2, 1, 0, 0, 1, 3, 1, 2, 4, 3, 2, 1, 5, 0, 2]), (24, [0, 5], []), (24, [1, 6], []), (24, [2, 7], [])], [(10, (0, 0, 7, []))], [], [], [], [(10, 13, -4294967296, -1), (13, 11, -2000, 0), (1, 2, -4294967296, 8), (1, 3, -4294967296, 7), (1, 4, -4294967296, 7), (1, 6, -4294967296, 0), (1, 7, -4294967296, 8), (1, 10, -4294967296, 7), (2, 1, -4294967296, 23), (2, 3, -4294967296, 23), (2, 4, -4294967296, 23), (2, 6, -4294967296, 23), (2, 7, -4294967296, 0), (2, 10, -4294967296, 23), (3, 1, -4294967296, 2000), (3, 2, -4294967296, 2001), (3, 4, -4294967296, 2000), (3, 6, -4294967296, 2000), (3, 7, -4294967296, 2001), (3, 10, -4294967296, 2000), (4, 1, -4294967296, 2000), (4, 2, -4294967296, 2001), (4, 3, -4294967296, 2000), (4, 6, -4294967296, 2000), (4, 7, -4294967296, 2001), (4, 10, -4294967296, 2000), (6, 1, -4294967296, 0), (6, 2, -4294967296, 8), (6, 3, -4294967296, 7), (6, 4, -4294967296, 7), (6, 7, -4294967296, 8), (6, 10, -4294967296, 7), (7, 1, -4294967296, 23), (7, 2, -4294967296, 0), (7, 3, -4294967296, 23), (7, 4, -4294967296, 23), (7, 6, -4294967296, 23), (7, 10, -4294967296, 23)])
theorem oo_Mo_met_35 {kA : Nat → ClassId} : or_ok kA GG o_Mo_met_35 := by
  intro A ta ws vs hD hth hl hk hds hf
  have hl : vs.length = 21 := hl
  have hk : ∀ q ∈ ([(0, (2, 0, 0, [150])), (1, (0, 0, 7, [])), (2, (0, -1, 23, [])), (3, (0, 0, 2000, [])), (4, (0, 0, 2000, [])), (5, (2, 0, 0, [150])), (6, (0, 0, 7, [])), (7, (0, -1, 23, [])), (10, (0, 0, 8, [])), (11, (0, 1, 2000, [])), (12, (0, 0, 2000, [])), (13, (0, 1, 2000, [])), (14, (2, 0, 0, [152])), (15, (0, 0, 66297, []))] : List (Nat × tv_T)), tv_ok ta q.2 (n_v vs q.1) := hk
  obtain ⟨t0, hk⟩ := List.forall_mem_cons.mp hk
  have t0 : tv_ok ta (2, 0, 0, [150]) (n_v vs 0) := t0
  have r0 : ta (v_ad (n_v vs 0)) = some 150 := tv_rg t0
  obtain ⟨t1, hk⟩ := List.forall_mem_cons.mp hk
  have t1 : tv_ok ta (0, 0, 7, []) (n_v vs 1) := t1
  have k1 : 0 ≤ v_iv (n_v vs 1) ∧ v_iv (n_v vs 1) ≤ 7 := tv_rng t1
  obtain ⟨t2, hk⟩ := List.forall_mem_cons.mp hk
  have t2 : tv_ok ta (0, -1, 23, []) (n_v vs 2) := t2
  have k2 : (-1) ≤ v_iv (n_v vs 2) ∧ v_iv (n_v vs 2) ≤ 23 := tv_rng t2
  obtain ⟨t3, hk⟩ := List.forall_mem_cons.mp hk
  have t3 : tv_ok ta (0, 0, 2000, []) (n_v vs 3) := t3
  have k3 : 0 ≤ v_iv (n_v vs 3) ∧ v_iv (n_v vs 3) ≤ 2000 := tv_rng t3
  obtain ⟨t4, hk⟩ := List.forall_mem_cons.mp hk
  have t4 : tv_ok ta (0, 0, 2000, []) (n_v vs 4) := t4
  have k4 : 0 ≤ v_iv (n_v vs 4) ∧ v_iv (n_v vs 4) ≤ 2000 := tv_rng t4
  obtain ⟨t5, hk⟩ := List.forall_mem_cons.mp hk
  have t5 : tv_ok ta (2, 0, 0, [150]) (n_v vs 5) := t5
  have r5 : ta (v_ad (n_v vs 5)) = some 150 := tv_rg t5
  obtain ⟨t6, hk⟩ := List.forall_mem_cons.mp hk
  have t6 : tv_ok ta (0, 0, 7, []) (n_v vs 6) := t6
  have k6 : 0 ≤ v_iv (n_v vs 6) ∧ v_iv (n_v vs 6) ≤ 7 := tv_rng t6
  obtain ⟨t7, hk⟩ := List.forall_mem_cons.mp hk
  have t7 : tv_ok ta (0, -1, 23, []) (n_v vs 7) := t7
  have k7 : (-1) ≤ v_iv (n_v vs 7) ∧ v_iv (n_v vs 7) ≤ 23 := tv_rng t7
  obtain ⟨t10, hk⟩ := List.forall_mem_cons.mp hk
  have t10 : tv_ok ta (0, 0, 8, []) (n_v vs 10) := t10
  have k10 : 0 ≤ v_iv (n_v vs 10) ∧ v_iv (n_v vs 10) ≤ 8 := tv_rng t10
  obtain ⟨t11, hk⟩ := List.forall_mem_cons.mp hk
  have t11 : tv_ok ta (0, 1, 2000, []) (n_v vs 11) := t11
  have k11 : 1 ≤ v_iv (n_v vs 11) ∧ v_iv (n_v vs 11) ≤ 2000 := tv_rng t11
  obtain ⟨t12, hk⟩ := List.forall_mem_cons.mp hk
  have t12 : tv_ok ta (0, 0, 2000, []) (n_v vs 12) := t12
  have k12 : 0 ≤ v_iv (n_v vs 12) ∧ v_iv (n_v vs 12) ≤ 2000 := tv_rng t12
  obtain ⟨t13, hk⟩ := List.forall_mem_cons.mp hk
  have t13 : tv_ok ta (0, 1, 2000, []) (n_v vs 13) := t13
  have k13 : 1 ≤ v_iv (n_v vs 13) ∧ v_iv (n_v vs 13) ≤ 2000 := tv_rng t13
  obtain ⟨t14, hk⟩ := List.forall_mem_cons.mp hk
  have t14 : tv_ok ta (2, 0, 0, [152]) (n_v vs 14) := t14
  have r14 : ta (v_ad (n_v vs 14)) = some 152 := tv_rg t14
  obtain ⟨t15, hk⟩ := List.forall_mem_cons.mp hk
  have t15 : tv_ok ta (0, 0, 66297, []) (n_v vs 15) := t15
  have k15 : 0 ≤ v_iv (n_v vs 15) ∧ v_iv (n_v vs 15) ≤ 66297 := tv_rng t15
  have hds : ∀ q ∈ ([(10, 13, -4294967296, -1), (13, 11, -2000, 0), (1, 2, -4294967296, 8), (1, 3, -4294967296, 7), (1, 4, -4294967296, 7), (1, 6, -4294967296, 0), (1, 7, -4294967296, 8), (1, 10, -4294967296, 7), (2, 1, -4294967296, 23), (2, 3, -4294967296, 23), (2, 4, -4294967296, 23), (2, 6, -4294967296, 23), (2, 7, -4294967296, 0), (2, 10, -4294967296, 23), (3, 1, -4294967296, 2000), (3, 2, -4294967296, 2001), (3, 4, -4294967296, 2000), (3, 6, -4294967296, 2000), (3, 7, -4294967296, 2001), (3, 10, -4294967296, 2000), (4, 1, -4294967296, 2000), (4, 2, -4294967296, 2001), (4, 3, -4294967296, 2000), (4, 6, -4294967296, 2000), (4, 7, -4294967296, 2001), (4, 10, -4294967296, 2000), (6, 1, -4294967296, 0), (6, 2, -4294967296, 8), (6, 3, -4294967296, 7), (6, 4, -4294967296, 7), (6, 7, -4294967296, 8), (6, 10, -4294967296, 7), (7, 1, -4294967296, 23), (7, 2, -4294967296, 0), (7, 3, -4294967296, 23), (7, 4, -4294967296, 23), (7, 6, -4294967296, 23), (7, 10, -4294967296, 23)] : List of_T), n_iv vs q.2.1 + q.2.2.1 ≤ n_iv vs q.1 ∧ n_iv vs q.1 ≤ n_iv vs q.2.1 + q.2.2.2 := hds
  obtain ⟨d0, hds⟩ := List.forall_mem_cons.mp hds
  have d0 : v_iv (n_v vs 13) + (-4294967296) ≤ v_iv (n_v vs 10) ∧ v_iv (n_v vs 10) ≤ v_iv (n_v vs 13) + (-1) := d0
  obtain ⟨d1, hds⟩ := List.forall_mem_cons.mp hds
  have d1 : v_iv (n_v vs 11) + (-2000) ≤ v_iv (n_v vs 13) ∧ v_iv (n_v vs 13) ≤ v_iv (n_v vs 11) + 0 := d1
  obtain ⟨d2, hds⟩ := List.forall_mem_cons.mp hds
  have d2 : v_iv (n_v vs 2) + (-4294967296) ≤ v_iv (n_v vs 1) ∧ v_iv (n_v vs 1) ≤ v_iv (n_v vs 2) + 8 := d2
  obtain ⟨d3, hds⟩ := List.forall_mem_cons.mp hds
  have d3 : v_iv (n_v vs 3) + (-4294967296) ≤ v_iv (n_v vs 1) ∧ v_iv (n_v vs 1) ≤ v_iv (n_v vs 3) + 7 := d3
  obtain ⟨d4, hds⟩ := List.forall_mem_cons.mp hds
  have d4 : v_iv (n_v vs 4) + (-4294967296) ≤ v_iv (n_v vs 1) ∧ v_iv (n_v vs 1) ≤ v_iv (n_v vs 4) + 7 := d4
  obtain ⟨d5, hds⟩ := List.forall_mem_cons.mp hds
  have d5 : v_iv (n_v vs 6) + (-4294967296) ≤ v_iv (n_v vs 1) ∧ v_iv (n_v vs 1) ≤ v_iv (n_v vs 6) + 0 := d5
  obtain ⟨d6, hds⟩ := List.forall_mem_cons.mp hds
  have d6 : v_iv (n_v vs 7) + (-4294967296) ≤ v_iv (n_v vs 1) ∧ v_iv (n_v vs 1) ≤ v_iv (n_v vs 7) + 8 := d6
  obtain ⟨d7, hds⟩ := List.forall_mem_cons.mp hds
  have d7 : v_iv (n_v vs 10) + (-4294967296) ≤ v_iv (n_v vs 1) ∧ v_iv (n_v vs 1) ≤ v_iv (n_v vs 10) + 7 := d7
  obtain ⟨d8, hds⟩ := List.forall_mem_cons.mp hds
  have d8 : v_iv (n_v vs 1) + (-4294967296) ≤ v_iv (n_v vs 2) ∧ v_iv (n_v vs 2) ≤ v_iv (n_v vs 1) + 23 := d8
  obtain ⟨d9, hds⟩ := List.forall_mem_cons.mp hds
  have d9 : v_iv (n_v vs 3) + (-4294967296) ≤ v_iv (n_v vs 2) ∧ v_iv (n_v vs 2) ≤ v_iv (n_v vs 3) + 23 := d9
  obtain ⟨d10, hds⟩ := List.forall_mem_cons.mp hds
  have d10 : v_iv (n_v vs 4) + (-4294967296) ≤ v_iv (n_v vs 2) ∧ v_iv (n_v vs 2) ≤ v_iv (n_v vs 4) + 23 := d10
  obtain ⟨d11, hds⟩ := List.forall_mem_cons.mp hds
  have d11 : v_iv (n_v vs 6) + (-4294967296) ≤ v_iv (n_v vs 2) ∧ v_iv (n_v vs 2) ≤ v_iv (n_v vs 6) + 23 := d11
  obtain ⟨d12, hds⟩ := List.forall_mem_cons.mp hds
  have d12 : v_iv (n_v vs 7) + (-4294967296) ≤ v_iv (n_v vs 2) ∧ v_iv (n_v vs 2) ≤ v_iv (n_v vs 7) + 0 := d12
  obtain ⟨d13, hds⟩ := List.forall_mem_cons.mp hds
  have d13 : v_iv (n_v vs 10) + (-4294967296) ≤ v_iv (n_v vs 2) ∧ v_iv (n_v vs 2) ≤ v_iv (n_v vs 10) + 23 := d13
  obtain ⟨d14, hds⟩ := List.forall_mem_cons.mp hds
  have d14 : v_iv (n_v vs 1) + (-4294967296) ≤ v_iv (n_v vs 3) ∧ v_iv (n_v vs 3) ≤ v_iv (n_v vs 1) + 2000 := d14
  obtain ⟨d15, hds⟩ := List.forall_mem_cons.mp hds
  have d15 : v_iv (n_v vs 2) + (-4294967296) ≤ v_iv (n_v vs 3) ∧ v_iv (n_v vs 3) ≤ v_iv (n_v vs 2) + 2001 := d15
  obtain ⟨d16, hds⟩ := List.forall_mem_cons.mp hds
  have d16 : v_iv (n_v vs 4) + (-4294967296) ≤ v_iv (n_v vs 3) ∧ v_iv (n_v vs 3) ≤ v_iv (n_v vs 4) + 2000 := d16
  obtain ⟨d17, hds⟩ := List.forall_mem_cons.mp hds
  have d17 : v_iv (n_v vs 6) + (-4294967296) ≤ v_iv (n_v vs 3) ∧ v_iv (n_v vs 3) ≤ v_iv (n_v vs 6) + 2000 := d17
  obtain ⟨d18, hds⟩ := List.forall_mem_cons.mp hds
  have d18 : v_iv (n_v vs 7) + (-4294967296) ≤ v_iv (n_v vs 3) ∧ v_iv (n_v vs 3) ≤ v_iv (n_v vs 7) + 2001 := d18
  obtain ⟨d19, hds⟩ := List.forall_mem_cons.mp hds
  have d19 : v_iv (n_v vs 10) + (-4294967296) ≤ v_iv (n_v vs 3) ∧ v_iv (n_v vs 3) ≤ v_iv (n_v vs 10) + 2000 := d19
  obtain ⟨d20, hds⟩ := List.forall_mem_cons.mp hds
  have d20 : v_iv (n_v vs 1) + (-4294967296) ≤ v_iv (n_v vs 4) ∧ v_iv (n_v vs 4) ≤ v_iv (n_v vs 1) + 2000 := d20
  obtain ⟨d21, hds⟩ := List.forall_mem_cons.mp hds
  have d21 : v_iv (n_v vs 2) + (-4294967296) ≤ v_iv (n_v vs 4) ∧ v_iv (n_v vs 4) ≤ v_iv (n_v vs 2) + 2001 := d21
  obtain ⟨d22, hds⟩ := List.forall_mem_cons.mp hds
  have d22 : v_iv (n_v vs 3) + (-4294967296) ≤ v_iv (n_v vs 4) ∧ v_iv (n_v vs 4) ≤ v_iv (n_v vs 3) + 2000 := d22
  obtain ⟨d23, hds⟩ := List.forall_mem_cons.mp hds
  have d23 : v_iv (n_v vs 6) + (-4294967296) ≤ v_iv (n_v vs 4) ∧ v_iv (n_v vs 4) ≤ v_iv (n_v vs 6) + 2000 := d23
  obtain ⟨d24, hds⟩ := List.forall_mem_cons.mp hds
  have d24 : v_iv (n_v vs 7) + (-4294967296) ≤ v_iv (n_v vs 4) ∧ v_iv (n_v vs 4) ≤ v_iv (n_v vs 7) + 2001 := d24
  obtain ⟨d25, hds⟩ := List.forall_mem_cons.mp hds
  have d25 : v_iv (n_v vs 10) + (-4294967296) ≤ v_iv (n_v vs 4) ∧ v_iv (n_v vs 4) ≤ v_iv (n_v vs 10) + 2000 := d25
  obtain ⟨d26, hds⟩ := List.forall_mem_cons.mp hds
  have d26 : v_iv (n_v vs 1) + (-4294967296) ≤ v_iv (n_v vs 6) ∧ v_iv (n_v vs 6) ≤ v_iv (n_v vs 1) + 0 := d26
  obtain ⟨d27, hds⟩ := List.forall_mem_cons.mp hds
  have d27 : v_iv (n_v vs 2) + (-4294967296) ≤ v_iv (n_v vs 6) ∧ v_iv (n_v vs 6) ≤ v_iv (n_v vs 2) + 8 := d27
  obtain ⟨d28, hds⟩ := List.forall_mem_cons.mp hds
  have d28 : v_iv (n_v vs 3) + (-4294967296) ≤ v_iv (n_v vs 6) ∧ v_iv (n_v vs 6) ≤ v_iv (n_v vs 3) + 7 := d28
  obtain ⟨d29, hds⟩ := List.forall_mem_cons.mp hds
  have d29 : v_iv (n_v vs 4) + (-4294967296) ≤ v_iv (n_v vs 6) ∧ v_iv (n_v vs 6) ≤ v_iv (n_v vs 4) + 7 := d29
  obtain ⟨d30, hds⟩ := List.forall_mem_cons.mp hds
  have d30 : v_iv (n_v vs 7) + (-4294967296) ≤ v_iv (n_v vs 6) ∧ v_iv (n_v vs 6) ≤ v_iv (n_v vs 7) + 8 := d30
  obtain ⟨d31, hds⟩ := List.forall_mem_cons.mp hds
  have d31 : v_iv (n_v vs 10) + (-4294967296) ≤ v_iv (n_v vs 6) ∧ v_iv (n_v vs 6) ≤ v_iv (n_v vs 10) + 7 := d31
  obtain ⟨d32, hds⟩ := List.forall_mem_cons.mp hds
  have d32 : v_iv (n_v vs 1) + (-4294967296) ≤ v_iv (n_v vs 7) ∧ v_iv (n_v vs 7) ≤ v_iv (n_v vs 1) + 23 := d32
  obtain ⟨d33, hds⟩ := List.forall_mem_cons.mp hds
  have d33 : v_iv (n_v vs 2) + (-4294967296) ≤ v_iv (n_v vs 7) ∧ v_iv (n_v vs 7) ≤ v_iv (n_v vs 2) + 0 := d33
  obtain ⟨d34, hds⟩ := List.forall_mem_cons.mp hds
  have d34 : v_iv (n_v vs 3) + (-4294967296) ≤ v_iv (n_v vs 7) ∧ v_iv (n_v vs 7) ≤ v_iv (n_v vs 3) + 23 := d34
  obtain ⟨d35, hds⟩ := List.forall_mem_cons.mp hds
  have d35 : v_iv (n_v vs 4) + (-4294967296) ≤ v_iv (n_v vs 7) ∧ v_iv (n_v vs 7) ≤ v_iv (n_v vs 4) + 23 := d35
  obtain ⟨d36, hds⟩ := List.forall_mem_cons.mp hds
  have d36 : v_iv (n_v vs 6) + (-4294967296) ≤ v_iv (n_v vs 7) ∧ v_iv (n_v vs 7) ≤ v_iv (n_v vs 6) + 23 := d36
  obtain ⟨d37, hds⟩ := List.forall_mem_cons.mp hds
  have d37 : v_iv (n_v vs 10) + (-4294967296) ≤ v_iv (n_v vs 7) ∧ v_iv (n_v vs 7) ≤ v_iv (n_v vs 10) + 23 := d37
  have hf : fc_ok [(9, [15, 5], [5]), (9, [14, 5], [2]), (7, [10, 13], [2]), (2, [13, 11, 12], []), (9, [12, 5], [15]), (9, [11, 5], [11]), (20, [5, 5], [30, 0, 1, 1, 15, -1, 1, 11]), (20, [5], [50, 3, 0, 12, 11, 15, 2, 21, 4, 7, 1, 3, 2, 0, 12, 0, 1, 0, 3, 2, 0, 11, 4, 3, 2, 0, 15, 0, 8, 3, 7, 1, 3, 2, 0, 12, 0, 0, 0, 7, 4, 3, 2, 0, 15, 0, 1, 2, 0, 11]), (20, [3, 5], [30, 0, 1, 0, 0, -1, 1, 11]), (20, [4, 5], [30, -1, 1, 0, 0, -1, 1, 11]), (20, [5], [50, 1, 0, 12, 1, 3, 2, 0, 12, 0, 1]), (20, [7, 5], [50, 1, 1, 1005, 1002, 3, 6, 0, 2, 1, 0, 0, -1, 0, 10, 3, 1, 2, 4, 3, 2, 1, 5, 0, 1, 0, 47]), (20, [6, 5], [50, 1, 1, 1005, 1002, 0, 6, 4, 2, 1, 0, 0, 1, 3, 1, 2, 4, 3, 2, 1, 5, 0, 2]), (24, [0, 5], []), (24, [1, 6], []), (24, [2, 7], [])] ta ws vs := hf
  obtain ⟨f0, hf⟩ := fc_un (show (9 : Nat) < 100 from by decide) hf
  have f0 : n_v vs 15 = w_fd ws (v_ad (n_v vs 5)) 5 := f0
  obtain ⟨f1, hf⟩ := fc_un (show (9 : Nat) < 100 from by decide) hf
  have f1 : n_v vs 14 = w_fd ws (v_ad (n_v vs 5)) 2 := f1
  obtain ⟨f2, hf⟩ := fc_un (show (7 : Nat) < 100 from by decide) hf
  have f2 : v_iv (n_v vs 10) < v_iv (n_v vs 13) := f2
  obtain ⟨f3, hf⟩ := fc_un (show (2 : Nat) < 100 from by decide) hf
  have f3 : v_iv (n_v vs 13) = v_iv (n_v vs 11) - v_iv (n_v vs 12) := f3
  obtain ⟨f4, hf⟩ := fc_un (show (9 : Nat) < 100 from by decide) hf
  have f4 : n_v vs 12 = w_fd ws (v_ad (n_v vs 5)) 15 := f4
  obtain ⟨f5, hf⟩ := fc_un (show (9 : Nat) < 100 from by decide) hf
  have f5 : n_v vs 11 = w_fd ws (v_ad (n_v vs 5)) 11 := f5
  obtain ⟨f6, hf⟩ := fc_un (show (20 : Nat) < 100 from by decide) hf
  have f6 : 1 * w_fi ws (n_v vs 5) 15 + ((-1) * w_fi ws (n_v vs 5) 11 + 0) ≤ 0 := f6
  obtain ⟨f7, hf⟩ := fc_un (show (20 : Nat) < 100 from by decide) hf
  have f7 : ((w_fi ws (n_v vs 5) 12 = 1) → (w_fi ws (n_v vs 5) 11 ≤ (w_fi ws (n_v vs 5) 15 + 8))) ∧ ((w_fi ws (n_v vs 5) 12 = 0) ∨ ((w_fi ws (n_v vs 5) 15 + 1) ≤ w_fi ws (n_v vs 5) 11)) := f7
  obtain ⟨f8, hf⟩ := fc_un (show (20 : Nat) < 100 from by decide) hf
  have f8 : 1 * v_iv (n_v vs 3) + ((-1) * w_fi ws (n_v vs 5) 11 + 0) ≤ 0 := f8
  obtain ⟨f9, hf⟩ := fc_un (show (20 : Nat) < 100 from by decide) hf
  have f9 : 1 * v_iv (n_v vs 4) + ((-1) * w_fi ws (n_v vs 5) 11 + 0) ≤ (-1) := f9
  obtain ⟨f10, hf⟩ := fc_un (show (20 : Nat) < 100 from by decide) hf
  have f10 : w_fi ws (n_v vs 5) 12 = 1 := f10
  obtain ⟨f11, hf⟩ := fc_un (show (20 : Nat) < 100 from by decide) hf
  have f11 : (v_iv (n_v vs 7) ≤ (-1)) ∨ (w_ei ws (w_ar ws (n_v vs 5) 2) ((w_fi ws (n_v vs 5) 5 + 1)) ≤ 47) := f11
  obtain ⟨f12, hf⟩ := fc_un (show (20 : Nat) < 100 from by decide) hf
  have f12 : (v_iv (n_v vs 6) + 1) ≤ w_ei ws (w_ar ws (n_v vs 5) 2) ((w_fi ws (n_v vs 5) 5 + 2)) := f12
  obtain ⟨f13, hf⟩ := fc_un (show (24 : Nat) < 100 from by decide) hf
  have f13 : n_v vs 0 = n_v vs 5 := f13
  obtain ⟨f14, hf⟩ := fc_un (show (24 : Nat) < 100 from by decide) hf
  have f14 : n_v vs 1 = n_v vs 6 := f14
  obtain ⟨f15, hf⟩ := fc_un (show (24 : Nat) < 100 from by decide) hf
  have f15 : n_v vs 2 = n_v vs 7 := f15
  have q5 : n_v vs 5 = n_v vs 0 := f13.symm
  have q6 : n_v vs 6 = n_v vs 1 := f14.symm
  have q7 : n_v vs 7 = n_v vs 2 := f15.symm
  rw [q5] at f0
  rw [q5] at f1
  rw [q5] at f4
  rw [q5] at f5
  rw [q5] at f6
  rw [q5] at f7
  rw [q5] at f8
  rw [q5] at f9
  rw [q5] at f10
  rw [q5] at f11
  rw [q7] at f11
  rw [q5] at f12
  rw [q6] at f12
  have cr_0_2 : ta (w_ar ws (n_v vs 0) 2) = some 152 := tv_rg (th_fd hD hth r0 (g := GG_150) rfl (k := 2) (t := (2, 0, 0, [152])) rfl rfl)
  have ad_14 : v_ad (n_v vs 14) = w_ar ws (n_v vs 0) 2 := congrArg v_ad f1
  have g0 : v_iv (n_v vs 15) = w_fi ws (n_v vs 0) 5 := congrArg v_iv f0
  have g4 : v_iv (n_v vs 12) = w_fi ws (n_v vs 0) 15 := congrArg v_iv f4
  have g5 : v_iv (n_v vs 11) = w_fi ws (n_v vs 0) 11 := congrArg v_iv f5
  have kz_0_11 : 0 ≤ w_fi ws (n_v vs 0) 11 ∧ w_fi ws (n_v vs 0) 11 ≤ 2000 := tv_rng (th_fd hD hth r0 (g := GG_150) rfl (k := 11) (t := (0, 0, 2000, [])) rfl rfl)
  have kz_0_12 : 0 ≤ w_fi ws (n_v vs 0) 12 ∧ w_fi ws (n_v vs 0) 12 ≤ 4 := tv_rng (th_fd hD hth r0 (g := GG_150) rfl (k := 12) (t := (0, 0, 4, [])) rfl rfl)
  have kz_0_15 : 0 ≤ w_fi ws (n_v vs 0) 15 ∧ w_fi ws (n_v vs 0) 15 ≤ 2000 := tv_rng (th_fd hD hth r0 (g := GG_150) rfl (k := 15) (t := (0, 0, 2000, [])) rfl rfl)
  have rf10 : tv_ok ta (0, 0, 7, []) (n_v vs 10) := tv_in t10 (by first | omega | grind) (by first | omega | grind)
  refine ⟨List.forall_mem_cons.mpr ⟨rf10, (fun _ h => (by cases h))⟩, [], trivial, ?_, (fun _ h => (by cases h))⟩
  rw [List.append_nil]
  exact (fun _ h => (by cases h))
def o_Mo_met_36 : or_T := (214, 24, [(8, (0, 0, 23, [])), (10, (0, 0, 7, [])), (15, (5, 0, 66297, [539])), (16, (0, 3, 3, [])), (17, (0, 3, 66300, [])), (18, (0, 8, 8, [])), (19, (0, 0, 184, [])), (20, (0, 3, 66484, [])), (21, (0, 3, 66491, [])), (23, (0, -1, -1, []))], [(1, [21, 20, 10], []), (1, [20, 17, 19], []), (3, [19, 18, 8], []), (1, [17, 15, 16], [])], [], [], [(18, [21, 23], [1])], [], [(21, 10, 3, 66484), (21, 20, 0, 7), (21, 19, 3, 66307), (21, 17, 0, 191), (21, 15, 3, 194), (20, 19, 3, 66300), (20, 17, 0, 184), (20, 15, 3, 187), (17, 15, 3, 3), (8, 10, -4294967296, 23)])
theorem oo_Mo_met_36 {kA : Nat → ClassId} : or_ok kA GG o_Mo_met_36 := by
  intro A ta ws vs hD hth hl hk hds hf
  have hl : vs.length = 24 := hl
  have hk : ∀ q ∈ ([(8, (0, 0, 23, [])), (10, (0, 0, 7, [])), (15, (5, 0, 66297, [539])), (16, (0, 3, 3, [])), (17, (0, 3, 66300, [])), (18, (0, 8, 8, [])), (19, (0, 0, 184, [])), (20, (0, 3, 66484, [])), (21, (0, 3, 66491, [])), (23, (0, -1, -1, []))] : List (Nat × tv_T)), tv_ok ta q.2 (n_v vs q.1) := hk
  obtain ⟨t8, hk⟩ := List.forall_mem_cons.mp hk
  have t8 : tv_ok ta (0, 0, 23, []) (n_v vs 8) := t8
  have k8 : 0 ≤ v_iv (n_v vs 8) ∧ v_iv (n_v vs 8) ≤ 23 := tv_rng t8
  obtain ⟨t10, hk⟩ := List.forall_mem_cons.mp hk
  have t10 : tv_ok ta (0, 0, 7, []) (n_v vs 10) := t10
  have k10 : 0 ≤ v_iv (n_v vs 10) ∧ v_iv (n_v vs 10) ≤ 7 := tv_rng t10
  obtain ⟨t15, hk⟩ := List.forall_mem_cons.mp hk
  have t15 : tv_ok ta (5, 0, 66297, [539]) (n_v vs 15) := t15
  obtain ⟨k15, q15_⟩ : (0 ≤ v_iv (n_v vs 15) ∧ v_iv (n_v vs 15) ≤ 66297) ∧ ∃ q : Int, v_iv (n_v vs 15) = 539 * q := tv_dvk t15
  obtain ⟨q15, hq15⟩ := q15_
  obtain ⟨t16, hk⟩ := List.forall_mem_cons.mp hk
  have t16 : tv_ok ta (0, 3, 3, []) (n_v vs 16) := t16
  have k16 : 3 ≤ v_iv (n_v vs 16) ∧ v_iv (n_v vs 16) ≤ 3 := tv_rng t16
  obtain ⟨t17, hk⟩ := List.forall_mem_cons.mp hk
  have t17 : tv_ok ta (0, 3, 66300, []) (n_v vs 17) := t17
  have k17 : 3 ≤ v_iv (n_v vs 17) ∧ v_iv (n_v vs 17) ≤ 66300 := tv_rng t17
  obtain ⟨t18, hk⟩ := List.forall_mem_cons.mp hk
  have t18 : tv_ok ta (0, 8, 8, []) (n_v vs 18) := t18
  have k18 : 8 ≤ v_iv (n_v vs 18) ∧ v_iv (n_v vs 18) ≤ 8 := tv_rng t18
  obtain ⟨t19, hk⟩ := List.forall_mem_cons.mp hk
  have t19 : tv_ok ta (0, 0, 184, []) (n_v vs 19) := t19
  have k19 : 0 ≤ v_iv (n_v vs 19) ∧ v_iv (n_v vs 19) ≤ 184 := tv_rng t19
  obtain ⟨t20, hk⟩ := List.forall_mem_cons.mp hk
  have t20 : tv_ok ta (0, 3, 66484, []) (n_v vs 20) := t20
  have k20 : 3 ≤ v_iv (n_v vs 20) ∧ v_iv (n_v vs 20) ≤ 66484 := tv_rng t20
  obtain ⟨t21, hk⟩ := List.forall_mem_cons.mp hk
  have t21 : tv_ok ta (0, 3, 66491, []) (n_v vs 21) := t21
  have k21 : 3 ≤ v_iv (n_v vs 21) ∧ v_iv (n_v vs 21) ≤ 66491 := tv_rng t21
  obtain ⟨t23, hk⟩ := List.forall_mem_cons.mp hk
  have t23 : tv_ok ta (0, -1, -1, []) (n_v vs 23) := t23
  have k23 : (-1) ≤ v_iv (n_v vs 23) ∧ v_iv (n_v vs 23) ≤ (-1) := tv_rng t23
  have hds : ∀ q ∈ ([(21, 10, 3, 66484), (21, 20, 0, 7), (21, 19, 3, 66307), (21, 17, 0, 191), (21, 15, 3, 194), (20, 19, 3, 66300), (20, 17, 0, 184), (20, 15, 3, 187), (17, 15, 3, 3), (8, 10, -4294967296, 23)] : List of_T), n_iv vs q.2.1 + q.2.2.1 ≤ n_iv vs q.1 ∧ n_iv vs q.1 ≤ n_iv vs q.2.1 + q.2.2.2 := hds
  obtain ⟨d0, hds⟩ := List.forall_mem_cons.mp hds
  have d0 : v_iv (n_v vs 10) + 3 ≤ v_iv (n_v vs 21) ∧ v_iv (n_v vs 21) ≤ v_iv (n_v vs 10) + 66484 := d0
  obtain ⟨d1, hds⟩ := List.forall_mem_cons.mp hds
  have d1 : v_iv (n_v vs 20) + 0 ≤ v_iv (n_v vs 21) ∧ v_iv (n_v vs 21) ≤ v_iv (n_v vs 20) + 7 := d1
  obtain ⟨d2, hds⟩ := List.forall_mem_cons.mp hds
  have d2 : v_iv (n_v vs 19) + 3 ≤ v_iv (n_v vs 21) ∧ v_iv (n_v vs 21) ≤ v_iv (n_v vs 19) + 66307 := d2
  obtain ⟨d3, hds⟩ := List.forall_mem_cons.mp hds
  have d3 : v_iv (n_v vs 17) + 0 ≤ v_iv (n_v vs 21) ∧ v_iv (n_v vs 21) ≤ v_iv (n_v vs 17) + 191 := d3
  obtain ⟨d4, hds⟩ := List.forall_mem_cons.mp hds
  have d4 : v_iv (n_v vs 15) + 3 ≤ v_iv (n_v vs 21) ∧ v_iv (n_v vs 21) ≤ v_iv (n_v vs 15) + 194 := d4
  obtain ⟨d5, hds⟩ := List.forall_mem_cons.mp hds
  have d5 : v_iv (n_v vs 19) + 3 ≤ v_iv (n_v vs 20) ∧ v_iv (n_v vs 20) ≤ v_iv (n_v vs 19) + 66300 := d5
  obtain ⟨d6, hds⟩ := List.forall_mem_cons.mp hds
  have d6 : v_iv (n_v vs 17) + 0 ≤ v_iv (n_v vs 20) ∧ v_iv (n_v vs 20) ≤ v_iv (n_v vs 17) + 184 := d6
  obtain ⟨d7, hds⟩ := List.forall_mem_cons.mp hds
  have d7 : v_iv (n_v vs 15) + 3 ≤ v_iv (n_v vs 20) ∧ v_iv (n_v vs 20) ≤ v_iv (n_v vs 15) + 187 := d7
  obtain ⟨d8, hds⟩ := List.forall_mem_cons.mp hds
  have d8 : v_iv (n_v vs 15) + 3 ≤ v_iv (n_v vs 17) ∧ v_iv (n_v vs 17) ≤ v_iv (n_v vs 15) + 3 := d8
  obtain ⟨d9, hds⟩ := List.forall_mem_cons.mp hds
  have d9 : v_iv (n_v vs 10) + (-4294967296) ≤ v_iv (n_v vs 8) ∧ v_iv (n_v vs 8) ≤ v_iv (n_v vs 10) + 23 := d9
  have hf : fc_ok [(1, [21, 20, 10], []), (1, [20, 17, 19], []), (3, [19, 18, 8], []), (1, [17, 15, 16], [])] ta ws vs := hf
  obtain ⟨f0, hf⟩ := fc_un (show (1 : Nat) < 100 from by decide) hf
  have f0 : v_iv (n_v vs 21) = v_iv (n_v vs 20) + v_iv (n_v vs 10) := f0
  obtain ⟨f1, hf⟩ := fc_un (show (1 : Nat) < 100 from by decide) hf
  have f1 : v_iv (n_v vs 20) = v_iv (n_v vs 17) + v_iv (n_v vs 19) := f1
  obtain ⟨f2, hf⟩ := fc_un (show (3 : Nat) < 100 from by decide) hf
  have f2 : v_iv (n_v vs 19) = v_iv (n_v vs 18) * v_iv (n_v vs 8) := f2
  rw [show v_iv (n_v vs 18) = 8 from by omega] at f2
  obtain ⟨f3, hf⟩ := fc_un (show (1 : Nat) < 100 from by decide) hf
  have f3 : v_iv (n_v vs 17) = v_iv (n_v vs 15) + v_iv (n_v vs 16) := f3
  have nf0 : fc_1 (18, [21, 23], [1]) ws (vs) := by
    refine ⟨fun n hn => ?_, ?_⟩
    · have hn : n ∈ [21, 23] := hn
      rw [hl]
      simp only [List.mem_cons, List.not_mem_nil, or_false] at hn
      show n < 24; omega
    · show pl_ok 1 (v_iv (n_v vs 21)).toNat (v_iv (n_v vs 23))
      exact pl_in pl_M1 (lo := 3) (hi := 194) (a := (-1)) (b := (-1)) (by decide +kernel) (by omega) (by omega) (by omega) (by omega)
  refine ⟨(fun _ h => (by cases h)), [], trivial, ?_, (fun _ h => (by cases h))⟩
  rw [List.append_nil]
  exact List.forall_mem_cons.mpr ⟨⟨show (18 : Nat) < 100 from by decide, nf0⟩, (fun _ h => (by cases h))⟩
def o_Mo_met_37 : or_T := (171, 25, [(0, (2, 0, 0, [150])), (1, (0, 0, 7, [])), (2, (0, -1, 23, [])), (3, (0, 0, 2000, [])), (4, (0, 0, 2000, [])), (5, (2, 0, 0, [150])), (6, (0, 0, 7, [])), (7, (0, -1, 23, [])), (8, (0, 0, 23, [])), (10, (0, 0, 7, [])), (11, (0, 1, 2000, [])), (12, (0, 0, 2000, [])), (13, (0, 1, 2000, [])), (14, (2, 0, 0, [152])), (15, (0, 0, 66297, [])), (16, (0, 3, 3, [])), (17, (0, 3, 66300, [])), (18, (0, 8, 8, [])), (19, (0, 0, 184, [])), (20, (0, 3, 66484, [])), (21, (0, 3, 66491, [])), (22, (0, 0, 2007, [])), (23, (0, -1, -1, [])), (24, (0, 1, 8, []))], [(6, [24, 10], [1]), (20, [22, 5, 23], [50, 1, 1, 1010, 1001, 4, 11, 0, 6, 4, 2, 1, 0, 0, 1, 2, 1, 10, 1, 2, 1, 2, 9, 5, 3, 1, 1, 1, 0, 0, 256]), (20, [5, 22, 23], [50, 1, 0, 10, 4, 7, 0, 3, 2, 0, 10, 1, 1, 1, 2, 1, 2, 0, -1]), (20, [5, 5], [30, 0, 1, 1, 15, -1, 1, 11]), (20, [5], [50, 3, 0, 12, 11, 15, 2, 21, 4, 7, 1, 3, 2, 0, 12, 0, 1, 0, 3, 2, 0, 11, 4, 3, 2, 0, 15, 0, 8, 3, 7, 1, 3, 2, 0, 12, 0, 0, 0, 7, 4, 3, 2, 0, 15, 0, 1, 2, 0, 11]), (20, [3, 5], [30, 0, 1, 0, 0, -1, 1, 11]), (20, [4, 5], [30, -1, 1, 0, 0, -1, 1, 11]), (20, [5], [50, 1, 0, 12, 1, 3, 2, 0, 12, 0, 1]), (24, [0, 5], []), (24, [1, 6], []), (24, [2, 7], []), (100, [14, 21, 23], []), (20, [22, 5, 23], [50, 1, 1, 1010, 1001, 4, 11, 0, 6, 4, 2, 1, 0, 0, 1, 2, 1, 10, 1, 2, 1, 2, 9, 5, 3, 1, 1, 1, 0, 0, 256]), (20, [5, 22, 23], [50, 1, 0, 10, 4, 7, 0, 3, 2, 0, 10, 1, 1, 1, 2, 1, 2, 0, -1]), (1, [22, 12, 10], []), (9, [12, 5], [15]), (1, [21, 20, 10], []), (1, [20, 17, 19], []), (3, [19, 18, 8], []), (1, [17, 15, 16], []), (9, [15, 5], [5]), (9, [14, 5], [2]), (7, [10, 13], [2]), (2, [13, 11, 12], []), (9, [11, 5], [11]), (20, [5, 5], [30, 0, 1, 1, 15, -1, 1, 11]), (20, [5], [50, 3, 0, 12, 11, 15, 2, 21, 4, 7, 1, 3, 2, 0, 12, 0, 1, 0, 3, 2, 0, 11, 4, 3, 2, 0, 15, 0, 8, 3, 7, 1, 3, 2, 0, 12, 0, 0, 0, 7, 4, 3, 2, 0, 15, 0, 1, 2, 0, 11]), (20, [3, 5], [30, 0, 1, 0, 0, -1, 1, 11]), (20, [4, 5], [30, -1, 1, 0, 0, -1, 1, 11]), (20, [5], [50, 1, 0, 12, 1, 3, 2, 0, 12, 0, 1]), (20, [7, 5], [50, 1, 1, 1005, 1002, 3, 6, 0, 2, 1, 0, 0, -1, 0, 10, 3, 1, 2, 4, 3, 2, 1, 5, 0, 1, 0, 47]), (20, [6, 5], [50, 1, 1, 1005, 1002, 0, 6, 4, 2, 1, 0, 0, 1, 3, 1, 2, 4, 3, 2, 1, 5, 0, 2])], [], [], [(20, [7, 5], [50, 1, 1, 1005, 1002, 3, 6, 0, 2, 1, 0, 0, -1, 0, 10, 3, 1, 2, 4, 3, 2, 1, 5, 0, 1, 0, 47]), (20, [6, 5], [50, 1, 1, 1005, 1002, 0, 6, 4, 2, 1, 0, 0, 1, 3, 1, 2, 4, 3, 2, 1, 5, 0, 2])], [], [(24, 10, 1, 1), (24, 13, -4294967296, 0), (22, 10, 0, 2000), (22, 13, -4294967296, 1999), (22, 12, 0, 7), (21, 10, 3, 66484), (21, 13, -4294967296, 66483), (21, 20, 0, 7), (21, 19, 3, 66307), (21, 17, 0, 191), (21, 15, 3, 194), (20, 19, 3, 66300), (20, 17, 0, 184), (20, 15, 3, 187), (17, 15, 3, 3), (10, 13, -4294967296, -1), (13, 11, -2000, 0), (1, 2, -4294967296, 8), (1, 3, -4294967296, 7), (1, 4, -4294967296, 7), (1, 6, -4294967296, 0), (1, 7, -4294967296, 8), (1, 8, -4294967296, 7), (1, 10, -4294967296, 7), (2, 1, -4294967296, 23), (2, 3, -4294967296, 23), (2, 4, -4294967296, 23), (2, 6, -4294967296, 23), (2, 7, -4294967296, 0), (2, 8, -4294967296, 23), (2, 10, -4294967296, 23), (3, 1, -4294967296, 2000), (3, 2, -4294967296, 2001), (3, 4, -4294967296, 2000), (3, 6, -4294967296, 2000), (3, 7, -4294967296, 2001), (3, 8, -4294967296, 2000), (3, 10, -4294967296, 2000), (4, 1, -4294967296, 2000), (4, 2, -4294967296, 2001), (4, 3, -4294967296, 2000), (4, 6, -4294967296, 2000), (4, 7, -4294967296, 2001), (4, 8, -4294967296, 2000), (4, 10, -4294967296, 2000), (6, 1, -4294967296, 0), (6, 2, -4294967296, 8), (6, 3, -4294967296, 7), (6, 4, -4294967296, 7), (6, 7, -4294967296, 8), (6, 8, -4294967296, 7), (6, 10, -4294967296, 7), (7, 1, -4294967296, 23), (7, 2, -4294967296, 0), (7, 3, -4294967296, 23), (7, 4, -4294967296, 23), (7, 6, -4294967296, 23), (7, 8, -4294967296, 23), (7, 10, -4294967296, 23), (8, 1, -4294967296, 23), (8, 2, -4294967296, 24), (8, 3, -4294967296, 23), (8, 4, -4294967296, 23), (8, 6, -4294967296, 23), (8, 7, -4294967296, 24), (8, 10, -4294967296, 23)])
theorem oo_Mo_met_37 {kA : Nat → ClassId} : or_ok kA GG o_Mo_met_37 := by
  intro A ta ws vs hD hth hl hk hds hf
  have hl : vs.length = 25 := hl
  have hk : ∀ q ∈ ([(0, (2, 0, 0, [150])), (1, (0, 0, 7, [])), (2, (0, -1, 23, [])), (3, (0, 0, 2000, [])), (4, (0, 0, 2000, [])), (5, (2, 0, 0, [150])), (6, (0, 0, 7, [])), (7, (0, -1, 23, [])), (8, (0, 0, 23, [])), (10, (0, 0, 7, [])), (11, (0, 1, 2000, [])), (12, (0, 0, 2000, [])), (13, (0, 1, 2000, [])), (14, (2, 0, 0, [152])), (15, (0, 0, 66297, [])), (16, (0, 3, 3, [])), (17, (0, 3, 66300, [])), (18, (0, 8, 8, [])), (19, (0, 0, 184, [])), (20, (0, 3, 66484, [])), (21, (0, 3, 66491, [])), (22, (0, 0, 2007, [])), (23, (0, -1, -1, [])), (24, (0, 1, 8, []))] : List (Nat × tv_T)), tv_ok ta q.2 (n_v vs q.1) := hk
  obtain ⟨t0, hk⟩ := List.forall_mem_cons.mp hk
  have t0 : tv_ok ta (2, 0, 0, [150]) (n_v vs 0) := t0
  have r0 : ta (v_ad (n_v vs 0)) = some 150 := tv_rg t0
  obtain ⟨t1, hk⟩ := List.forall_mem_cons.mp hk
  have t1 : tv_ok ta (0, 0, 7, []) (n_v vs 1) := t1
  have k1 : 0 ≤ v_iv (n_v vs 1) ∧ v_iv (n_v vs 1) ≤ 7 := tv_rng t1
  obtain ⟨t2, hk⟩ := List.forall_mem_cons.mp hk
  have t2 : tv_ok ta (0, -1, 23, []) (n_v vs 2) := t2
  have k2 : (-1) ≤ v_iv (n_v vs 2) ∧ v_iv (n_v vs 2) ≤ 23 := tv_rng t2
  obtain ⟨t3, hk⟩ := List.forall_mem_cons.mp hk
  have t3 : tv_ok ta (0, 0, 2000, []) (n_v vs 3) := t3
  have k3 : 0 ≤ v_iv (n_v vs 3) ∧ v_iv (n_v vs 3) ≤ 2000 := tv_rng t3
  obtain ⟨t4, hk⟩ := List.forall_mem_cons.mp hk
  have t4 : tv_ok ta (0, 0, 2000, []) (n_v vs 4) := t4
  have k4 : 0 ≤ v_iv (n_v vs 4) ∧ v_iv (n_v vs 4) ≤ 2000 := tv_rng t4
  obtain ⟨t5, hk⟩ := List.forall_mem_cons.mp hk
  have t5 : tv_ok ta (2, 0, 0, [150]) (n_v vs 5) := t5
  have r5 : ta (v_ad (n_v vs 5)) = some 150 := tv_rg t5
  obtain ⟨t6, hk⟩ := List.forall_mem_cons.mp hk
  have t6 : tv_ok ta (0, 0, 7, []) (n_v vs 6) := t6
  have k6 : 0 ≤ v_iv (n_v vs 6) ∧ v_iv (n_v vs 6) ≤ 7 := tv_rng t6
  obtain ⟨t7, hk⟩ := List.forall_mem_cons.mp hk
  have t7 : tv_ok ta (0, -1, 23, []) (n_v vs 7) := t7
  have k7 : (-1) ≤ v_iv (n_v vs 7) ∧ v_iv (n_v vs 7) ≤ 23 := tv_rng t7
  obtain ⟨t8, hk⟩ := List.forall_mem_cons.mp hk
  have t8 : tv_ok ta (0, 0, 23, []) (n_v vs 8) := t8
  have k8 : 0 ≤ v_iv (n_v vs 8) ∧ v_iv (n_v vs 8) ≤ 23 := tv_rng t8
  obtain ⟨t10, hk⟩ := List.forall_mem_cons.mp hk
  have t10 : tv_ok ta (0, 0, 7, []) (n_v vs 10) := t10
  have k10 : 0 ≤ v_iv (n_v vs 10) ∧ v_iv (n_v vs 10) ≤ 7 := tv_rng t10
  obtain ⟨t11, hk⟩ := List.forall_mem_cons.mp hk
  have t11 : tv_ok ta (0, 1, 2000, []) (n_v vs 11) := t11
  have k11 : 1 ≤ v_iv (n_v vs 11) ∧ v_iv (n_v vs 11) ≤ 2000 := tv_rng t11
  obtain ⟨t12, hk⟩ := List.forall_mem_cons.mp hk
  have t12 : tv_ok ta (0, 0, 2000, []) (n_v vs 12) := t12
  have k12 : 0 ≤ v_iv (n_v vs 12) ∧ v_iv (n_v vs 12) ≤ 2000 := tv_rng t12
  obtain ⟨t13, hk⟩ := List.forall_mem_cons.mp hk
  have t13 : tv_ok ta (0, 1, 2000, []) (n_v vs 13) := t13
  have k13 : 1 ≤ v_iv (n_v vs 13) ∧ v_iv (n_v vs 13) ≤ 2000 := tv_rng t13
  obtain ⟨t14, hk⟩ := List.forall_mem_cons.mp hk
  have t14 : tv_ok ta (2, 0, 0, [152]) (n_v vs 14) := t14
  have r14 : ta (v_ad (n_v vs 14)) = some 152 := tv_rg t14
  obtain ⟨t15, hk⟩ := List.forall_mem_cons.mp hk
  have t15 : tv_ok ta (0, 0, 66297, []) (n_v vs 15) := t15
  have k15 : 0 ≤ v_iv (n_v vs 15) ∧ v_iv (n_v vs 15) ≤ 66297 := tv_rng t15
  obtain ⟨t16, hk⟩ := List.forall_mem_cons.mp hk
  have t16 : tv_ok ta (0, 3, 3, []) (n_v vs 16) := t16
  have k16 : 3 ≤ v_iv (n_v vs 16) ∧ v_iv (n_v vs 16) ≤ 3 := tv_rng t16
  obtain ⟨t17, hk⟩ := List.forall_mem_cons.mp hk
  have t17 : tv_ok ta (0, 3, 66300, []) (n_v vs 17) := t17
  have k17 : 3 ≤ v_iv (n_v vs 17) ∧ v_iv (n_v vs 17) ≤ 66300 := tv_rng t17
  obtain ⟨t18, hk⟩ := List.forall_mem_cons.mp hk
  have t18 : tv_ok ta (0, 8, 8, []) (n_v vs 18) := t18
  have k18 : 8 ≤ v_iv (n_v vs 18) ∧ v_iv (n_v vs 18) ≤ 8 := tv_rng t18
  obtain ⟨t19, hk⟩ := List.forall_mem_cons.mp hk
  have t19 : tv_ok ta (0, 0, 184, []) (n_v vs 19) := t19
  have k19 : 0 ≤ v_iv (n_v vs 19) ∧ v_iv (n_v vs 19) ≤ 184 := tv_rng t19
  obtain ⟨t20, hk⟩ := List.forall_mem_cons.mp hk
  have t20 : tv_ok ta (0, 3, 66484, []) (n_v vs 20) := t20
  have k20 : 3 ≤ v_iv (n_v vs 20) ∧ v_iv (n_v vs 20) ≤ 66484 := tv_rng t20
  obtain ⟨t21, hk⟩ := List.forall_mem_cons.mp hk
  have t21 : tv_ok ta (0, 3, 66491, []) (n_v vs 21) := t21
  have k21 : 3 ≤ v_iv (n_v vs 21) ∧ v_iv (n_v vs 21) ≤ 66491 := tv_rng t21
  obtain ⟨t22, hk⟩ := List.forall_mem_cons.mp hk
  have t22 : tv_ok ta (0, 0, 2007, []) (n_v vs 22) := t22
  have k22 : 0 ≤ v_iv (n_v vs 22) ∧ v_iv (n_v vs 22) ≤ 2007 := tv_rng t22
  obtain ⟨t23, hk⟩ := List.forall_mem_cons.mp hk
  have t23 : tv_ok ta (0, -1, -1, []) (n_v vs 23) := t23
  have k23 : (-1) ≤ v_iv (n_v vs 23) ∧ v_iv (n_v vs 23) ≤ (-1) := tv_rng t23
  obtain ⟨t24, hk⟩ := List.forall_mem_cons.mp hk
  have t24 : tv_ok ta (0, 1, 8, []) (n_v vs 24) := t24
  have k24 : 1 ≤ v_iv (n_v vs 24) ∧ v_iv (n_v vs 24) ≤ 8 := tv_rng t24
  have hds : ∀ q ∈ ([(24, 10, 1, 1), (24, 13, -4294967296, 0), (22, 10, 0, 2000), (22, 13, -4294967296, 1999), (22, 12, 0, 7), (21, 10, 3, 66484), (21, 13, -4294967296, 66483), (21, 20, 0, 7), (21, 19, 3, 66307), (21, 17, 0, 191), (21, 15, 3, 194), (20, 19, 3, 66300), (20, 17, 0, 184), (20, 15, 3, 187), (17, 15, 3, 3), (10, 13, -4294967296, -1), (13, 11, -2000, 0), (1, 2, -4294967296, 8), (1, 3, -4294967296, 7), (1, 4, -4294967296, 7), (1, 6, -4294967296, 0), (1, 7, -4294967296, 8), (1, 8, -4294967296, 7), (1, 10, -4294967296, 7), (2, 1, -4294967296, 23), (2, 3, -4294967296, 23), (2, 4, -4294967296, 23), (2, 6, -4294967296, 23), (2, 7, -4294967296, 0), (2, 8, -4294967296, 23), (2, 10, -4294967296, 23), (3, 1, -4294967296, 2000), (3, 2, -4294967296, 2001), (3, 4, -4294967296, 2000), (3, 6, -4294967296, 2000), (3, 7, -4294967296, 2001), (3, 8, -4294967296, 2000), (3, 10, -4294967296, 2000), (4, 1, -4294967296, 2000), (4, 2, -4294967296, 2001), (4, 3, -4294967296, 2000), (4, 6, -4294967296, 2000), (4, 7, -4294967296, 2001), (4, 8, -4294967296, 2000), (4, 10, -4294967296, 2000), (6, 1, -4294967296, 0), (6, 2, -4294967296, 8), (6, 3, -4294967296, 7), (6, 4, -4294967296, 7), (6, 7, -4294967296, 8), (6, 8, -4294967296, 7), (6, 10, -4294967296, 7), (7, 1, -4294967296, 23), (7, 2, -4294967296, 0), (7, 3, -4294967296, 23), (7, 4, -4294967296, 23), (7, 6, -4294967296, 23), (7, 8, -4294967296, 23), (7, 10, -4294967296, 23), (8, 1, -4294967296, 23), (8, 2, -4294967296, 24), (8, 3, -4294967296, 23), (8, 4, -4294967296, 23), (8, 6, -4294967296, 23), (8, 7, -4294967296, 24), (8, 10, -4294967296, 23)] : List of_T), n_iv vs q.2.1 + q.2.2.1 ≤ n_iv vs q.1 ∧ n_iv vs q.1 ≤ n_iv vs q.2.1 + q.2.2.2 := hds
  obtain ⟨d0, hds⟩ := List.forall_mem_cons.mp hds
  have d0 : v_iv (n_v vs 10) + 1 ≤ v_iv (n_v vs 24) ∧ v_iv (n_v vs 24) ≤ v_iv (n_v vs 10) + 1 := d0
  obtain ⟨d1, hds⟩ := List.forall_mem_cons.mp hds
  have d1 : v_iv (n_v vs 13) + (-4294967296) ≤ v_iv (n_v vs 24) ∧ v_iv (n_v vs 24) ≤ v_iv (n_v vs 13) + 0 := d1
  obtain ⟨d2, hds⟩ := List.forall_mem_cons.mp hds
  have d2 : v_iv (n_v vs 10) + 0 ≤ v_iv (n_v vs 22) ∧ v_iv (n_v vs 22) ≤ v_iv (n_v vs 10) + 2000 := d2
  obtain ⟨d3, hds⟩ := List.forall_mem_cons.mp hds
  have d3 : v_iv (n_v vs 13) + (-4294967296) ≤ v_iv (n_v vs 22) ∧ v_iv (n_v vs 22) ≤ v_iv (n_v vs 13) + 1999 := d3
  obtain ⟨d4, hds⟩ := List.forall_mem_cons.mp hds
  have d4 : v_iv (n_v vs 12) + 0 ≤ v_iv (n_v vs 22) ∧ v_iv (n_v vs 22) ≤ v_iv (n_v vs 12) + 7 := d4
  obtain ⟨d5, hds⟩ := List.forall_mem_cons.mp hds
  have d5 : v_iv (n_v vs 10) + 3 ≤ v_iv (n_v vs 21) ∧ v_iv (n_v vs 21) ≤ v_iv (n_v vs 10) + 66484 := d5
  obtain ⟨d6, hds⟩ := List.forall_mem_cons.mp hds
  have d6 : v_iv (n_v vs 13) + (-4294967296) ≤ v_iv (n_v vs 21) ∧ v_iv (n_v vs 21) ≤ v_iv (n_v vs 13) + 66483 := d6
  obtain ⟨d7, hds⟩ := List.forall_mem_cons.mp hds
  have d7 : v_iv (n_v vs 20) + 0 ≤ v_iv (n_v vs 21) ∧ v_iv (n_v vs 21) ≤ v_iv (n_v vs 20) + 7 := d7
  obtain ⟨d8, hds⟩ := List.forall_mem_cons.mp hds
  have d8 : v_iv (n_v vs 19) + 3 ≤ v_iv (n_v vs 21) ∧ v_iv (n_v vs 21) ≤ v_iv (n_v vs 19) + 66307 := d8
  obtain ⟨d9, hds⟩ := List.forall_mem_cons.mp hds
  have d9 : v_iv (n_v vs 17) + 0 ≤ v_iv (n_v vs 21) ∧ v_iv (n_v vs 21) ≤ v_iv (n_v vs 17) + 191 := d9
  obtain ⟨d10, hds⟩ := List.forall_mem_cons.mp hds
  have d10 : v_iv (n_v vs 15) + 3 ≤ v_iv (n_v vs 21) ∧ v_iv (n_v vs 21) ≤ v_iv (n_v vs 15) + 194 := d10
  obtain ⟨d11, hds⟩ := List.forall_mem_cons.mp hds
  have d11 : v_iv (n_v vs 19) + 3 ≤ v_iv (n_v vs 20) ∧ v_iv (n_v vs 20) ≤ v_iv (n_v vs 19) + 66300 := d11
  obtain ⟨d12, hds⟩ := List.forall_mem_cons.mp hds
  have d12 : v_iv (n_v vs 17) + 0 ≤ v_iv (n_v vs 20) ∧ v_iv (n_v vs 20) ≤ v_iv (n_v vs 17) + 184 := d12
  obtain ⟨d13, hds⟩ := List.forall_mem_cons.mp hds
  have d13 : v_iv (n_v vs 15) + 3 ≤ v_iv (n_v vs 20) ∧ v_iv (n_v vs 20) ≤ v_iv (n_v vs 15) + 187 := d13
  obtain ⟨d14, hds⟩ := List.forall_mem_cons.mp hds
  have d14 : v_iv (n_v vs 15) + 3 ≤ v_iv (n_v vs 17) ∧ v_iv (n_v vs 17) ≤ v_iv (n_v vs 15) + 3 := d14
  obtain ⟨d15, hds⟩ := List.forall_mem_cons.mp hds
  have d15 : v_iv (n_v vs 13) + (-4294967296) ≤ v_iv (n_v vs 10) ∧ v_iv (n_v vs 10) ≤ v_iv (n_v vs 13) + (-1) := d15
  obtain ⟨d16, hds⟩ := List.forall_mem_cons.mp hds
  have d16 : v_iv (n_v vs 11) + (-2000) ≤ v_iv (n_v vs 13) ∧ v_iv (n_v vs 13) ≤ v_iv (n_v vs 11) + 0 := d16
  obtain ⟨d17, hds⟩ := List.forall_mem_cons.mp hds
  have d17 : v_iv (n_v vs 2) + (-4294967296) ≤ v_iv (n_v vs 1) ∧ v_iv (n_v vs 1) ≤ v_iv (n_v vs 2) + 8 := d17
  obtain ⟨d18, hds⟩ := List.forall_mem_cons.mp hds
  have d18 : v_iv (n_v vs 3) + (-4294967296) ≤ v_iv (n_v vs 1) ∧ v_iv (n_v vs 1) ≤ v_iv (n_v vs 3) + 7 := d18
  obtain ⟨d19, hds⟩ := List.forall_mem_cons.mp hds
  have d19 : v_iv (n_v vs 4) + (-4294967296) ≤ v_iv (n_v vs 1) ∧ v_iv (n_v vs 1) ≤ v_iv (n_v vs 4) + 7 := d19
  obtain ⟨d20, hds⟩ := List.forall_mem_cons.mp hds
  have d20 : v_iv (n_v vs 6) + (-4294967296) ≤ v_iv (n_v vs 1) ∧ v_iv (n_v vs 1) ≤ v_iv (n_v vs 6) + 0 := d20
  obtain ⟨d21, hds⟩ := List.forall_mem_cons.mp hds
  have d21 : v_iv (n_v vs 7) + (-4294967296) ≤ v_iv (n_v vs 1) ∧ v_iv (n_v vs 1) ≤ v_iv (n_v vs 7) + 8 := d21
  obtain ⟨d22, hds⟩ := List.forall_mem_cons.mp hds
  have d22 : v_iv (n_v vs 8) + (-4294967296) ≤ v_iv (n_v vs 1) ∧ v_iv (n_v vs 1) ≤ v_iv (n_v vs 8) + 7 := d22
  obtain ⟨d23, hds⟩ := List.forall_mem_cons.mp hds
  have d23 : v_iv (n_v vs 10) + (-4294967296) ≤ v_iv (n_v vs 1) ∧ v_iv (n_v vs 1) ≤ v_iv (n_v vs 10) + 7 := d23
  obtain ⟨d24, hds⟩ := List.forall_mem_cons.mp hds
  have d24 : v_iv (n_v vs 1) + (-4294967296) ≤ v_iv (n_v vs 2) ∧ v_iv (n_v vs 2) ≤ v_iv (n_v vs 1) + 23 := d24
  obtain ⟨d25, hds⟩ := List.forall_mem_cons.mp hds
  have d25 : v_iv (n_v vs 3) + (-4294967296) ≤ v_iv (n_v vs 2) ∧ v_iv (n_v vs 2) ≤ v_iv (n_v vs 3) + 23 := d25
  obtain ⟨d26, hds⟩ := List.forall_mem_cons.mp hds
  have d26 : v_iv (n_v vs 4) + (-4294967296) ≤ v_iv (n_v vs 2) ∧ v_iv (n_v vs 2) ≤ v_iv (n_v vs 4) + 23 := d26
  obtain ⟨d27, hds⟩ := List.forall_mem_cons.mp hds
  have d27 : v_iv (n_v vs 6) + (-4294967296) ≤ v_iv (n_v vs 2) ∧ v_iv (n_v vs 2) ≤ v_iv (n_v vs 6) + 23 := d27
  obtain ⟨d28, hds⟩ := List.forall_mem_cons.mp hds
  have d28 : v_iv (n_v vs 7) + (-4294967296) ≤ v_iv (n_v vs 2) ∧ v_iv (n_v vs 2) ≤ v_iv (n_v vs 7) + 0 := d28
  obtain ⟨d29, hds⟩ := List.forall_mem_cons.mp hds
  have d29 : v_iv (n_v vs 8) + (-4294967296) ≤ v_iv (n_v vs 2) ∧ v_iv (n_v vs 2) ≤ v_iv (n_v vs 8) + 23 := d29
  obtain ⟨d30, hds⟩ := List.forall_mem_cons.mp hds
  have d30 : v_iv (n_v vs 10) + (-4294967296) ≤ v_iv (n_v vs 2) ∧ v_iv (n_v vs 2) ≤ v_iv (n_v vs 10) + 23 := d30
  obtain ⟨d31, hds⟩ := List.forall_mem_cons.mp hds
  have d31 : v_iv (n_v vs 1) + (-4294967296) ≤ v_iv (n_v vs 3) ∧ v_iv (n_v vs 3) ≤ v_iv (n_v vs 1) + 2000 := d31
  obtain ⟨d32, hds⟩ := List.forall_mem_cons.mp hds
  have d32 : v_iv (n_v vs 2) + (-4294967296) ≤ v_iv (n_v vs 3) ∧ v_iv (n_v vs 3) ≤ v_iv (n_v vs 2) + 2001 := d32
  obtain ⟨d33, hds⟩ := List.forall_mem_cons.mp hds
  have d33 : v_iv (n_v vs 4) + (-4294967296) ≤ v_iv (n_v vs 3) ∧ v_iv (n_v vs 3) ≤ v_iv (n_v vs 4) + 2000 := d33
  obtain ⟨d34, hds⟩ := List.forall_mem_cons.mp hds
  have d34 : v_iv (n_v vs 6) + (-4294967296) ≤ v_iv (n_v vs 3) ∧ v_iv (n_v vs 3) ≤ v_iv (n_v vs 6) + 2000 := d34
  obtain ⟨d35, hds⟩ := List.forall_mem_cons.mp hds
  have d35 : v_iv (n_v vs 7) + (-4294967296) ≤ v_iv (n_v vs 3) ∧ v_iv (n_v vs 3) ≤ v_iv (n_v vs 7) + 2001 := d35
  obtain ⟨d36, hds⟩ := List.forall_mem_cons.mp hds
  have d36 : v_iv (n_v vs 8) + (-4294967296) ≤ v_iv (n_v vs 3) ∧ v_iv (n_v vs 3) ≤ v_iv (n_v vs 8) + 2000 := d36
  obtain ⟨d37, hds⟩ := List.forall_mem_cons.mp hds
  have d37 : v_iv (n_v vs 10) + (-4294967296) ≤ v_iv (n_v vs 3) ∧ v_iv (n_v vs 3) ≤ v_iv (n_v vs 10) + 2000 := d37
  obtain ⟨d38, hds⟩ := List.forall_mem_cons.mp hds
  have d38 : v_iv (n_v vs 1) + (-4294967296) ≤ v_iv (n_v vs 4) ∧ v_iv (n_v vs 4) ≤ v_iv (n_v vs 1) + 2000 := d38
  obtain ⟨d39, hds⟩ := List.forall_mem_cons.mp hds
  have d39 : v_iv (n_v vs 2) + (-4294967296) ≤ v_iv (n_v vs 4) ∧ v_iv (n_v vs 4) ≤ v_iv (n_v vs 2) + 2001 := d39
  obtain ⟨d40, hds⟩ := List.forall_mem_cons.mp hds
  have d40 : v_iv (n_v vs 3) + (-4294967296) ≤ v_iv (n_v vs 4) ∧ v_iv (n_v vs 4) ≤ v_iv (n_v vs 3) + 2000 := d40
  obtain ⟨d41, hds⟩ := List.forall_mem_cons.mp hds
  have d41 : v_iv (n_v vs 6) + (-4294967296) ≤ v_iv (n_v vs 4) ∧ v_iv (n_v vs 4) ≤ v_iv (n_v vs 6) + 2000 := d41
  obtain ⟨d42, hds⟩ := List.forall_mem_cons.mp hds
  have d42 : v_iv (n_v vs 7) + (-4294967296) ≤ v_iv (n_v vs 4) ∧ v_iv (n_v vs 4) ≤ v_iv (n_v vs 7) + 2001 := d42
  obtain ⟨d43, hds⟩ := List.forall_mem_cons.mp hds
  have d43 : v_iv (n_v vs 8) + (-4294967296) ≤ v_iv (n_v vs 4) ∧ v_iv (n_v vs 4) ≤ v_iv (n_v vs 8) + 2000 := d43
  obtain ⟨d44, hds⟩ := List.forall_mem_cons.mp hds
  have d44 : v_iv (n_v vs 10) + (-4294967296) ≤ v_iv (n_v vs 4) ∧ v_iv (n_v vs 4) ≤ v_iv (n_v vs 10) + 2000 := d44
  obtain ⟨d45, hds⟩ := List.forall_mem_cons.mp hds
  have d45 : v_iv (n_v vs 1) + (-4294967296) ≤ v_iv (n_v vs 6) ∧ v_iv (n_v vs 6) ≤ v_iv (n_v vs 1) + 0 := d45
  obtain ⟨d46, hds⟩ := List.forall_mem_cons.mp hds
  have d46 : v_iv (n_v vs 2) + (-4294967296) ≤ v_iv (n_v vs 6) ∧ v_iv (n_v vs 6) ≤ v_iv (n_v vs 2) + 8 := d46
  obtain ⟨d47, hds⟩ := List.forall_mem_cons.mp hds
  have d47 : v_iv (n_v vs 3) + (-4294967296) ≤ v_iv (n_v vs 6) ∧ v_iv (n_v vs 6) ≤ v_iv (n_v vs 3) + 7 := d47
  obtain ⟨d48, hds⟩ := List.forall_mem_cons.mp hds
  have d48 : v_iv (n_v vs 4) + (-4294967296) ≤ v_iv (n_v vs 6) ∧ v_iv (n_v vs 6) ≤ v_iv (n_v vs 4) + 7 := d48
  obtain ⟨d49, hds⟩ := List.forall_mem_cons.mp hds
  have d49 : v_iv (n_v vs 7) + (-4294967296) ≤ v_iv (n_v vs 6) ∧ v_iv (n_v vs 6) ≤ v_iv (n_v vs 7) + 8 := d49
  obtain ⟨d50, hds⟩ := List.forall_mem_cons.mp hds
  have d50 : v_iv (n_v vs 8) + (-4294967296) ≤ v_iv (n_v vs 6) ∧ v_iv (n_v vs 6) ≤ v_iv (n_v vs 8) + 7 := d50
  obtain ⟨d51, hds⟩ := List.forall_mem_cons.mp hds
  have d51 : v_iv (n_v vs 10) + (-4294967296) ≤ v_iv (n_v vs 6) ∧ v_iv (n_v vs 6) ≤ v_iv (n_v vs 10) + 7 := d51
  obtain ⟨d52, hds⟩ := List.forall_mem_cons.mp hds
  have d52 : v_iv (n_v vs 1) + (-4294967296) ≤ v_iv (n_v vs 7) ∧ v_iv (n_v vs 7) ≤ v_iv (n_v vs 1) + 23 := d52
  obtain ⟨d53, hds⟩ := List.forall_mem_cons.mp hds
  have d53 : v_iv (n_v vs 2) + (-4294967296) ≤ v_iv (n_v vs 7) ∧ v_iv (n_v vs 7) ≤ v_iv (n_v vs 2) + 0 := d53
  obtain ⟨d54, hds⟩ := List.forall_mem_cons.mp hds
  have d54 : v_iv (n_v vs 3) + (-4294967296) ≤ v_iv (n_v vs 7) ∧ v_iv (n_v vs 7) ≤ v_iv (n_v vs 3) + 23 := d54
  obtain ⟨d55, hds⟩ := List.forall_mem_cons.mp hds
  have d55 : v_iv (n_v vs 4) + (-4294967296) ≤ v_iv (n_v vs 7) ∧ v_iv (n_v vs 7) ≤ v_iv (n_v vs 4) + 23 := d55
  obtain ⟨d56, hds⟩ := List.forall_mem_cons.mp hds
  have d56 : v_iv (n_v vs 6) + (-4294967296) ≤ v_iv (n_v vs 7) ∧ v_iv (n_v vs 7) ≤ v_iv (n_v vs 6) + 23 := d56
  obtain ⟨d57, hds⟩ := List.forall_mem_cons.mp hds
  have d57 : v_iv (n_v vs 8) + (-4294967296) ≤ v_iv (n_v vs 7) ∧ v_iv (n_v vs 7) ≤ v_iv (n_v vs 8) + 23 := d57
  obtain ⟨d58, hds⟩ := List.forall_mem_cons.mp hds
  have d58 : v_iv (n_v vs 10) + (-4294967296) ≤ v_iv (n_v vs 7) ∧ v_iv (n_v vs 7) ≤ v_iv (n_v vs 10) + 23 := d58
  obtain ⟨d59, hds⟩ := List.forall_mem_cons.mp hds
  have d59 : v_iv (n_v vs 1) + (-4294967296) ≤ v_iv (n_v vs 8) ∧ v_iv (n_v vs 8) ≤ v_iv (n_v vs 1) + 23 := d59
  obtain ⟨d60, hds⟩ := List.forall_mem_cons.mp hds
  have d60 : v_iv (n_v vs 2) + (-4294967296) ≤ v_iv (n_v vs 8) ∧ v_iv (n_v vs 8) ≤ v_iv (n_v vs 2) + 24 := d60
  obtain ⟨d61, hds⟩ := List.forall_mem_cons.mp hds
  have d61 : v_iv (n_v vs 3) + (-4294967296) ≤ v_iv (n_v vs 8) ∧ v_iv (n_v vs 8) ≤ v_iv (n_v vs 3) + 23 := d61
  obtain ⟨d62, hds⟩ := List.forall_mem_cons.mp hds
  have d62 : v_iv (n_v vs 4) + (-4294967296) ≤ v_iv (n_v vs 8) ∧ v_iv (n_v vs 8) ≤ v_iv (n_v vs 4) + 23 := d62
  obtain ⟨d63, hds⟩ := List.forall_mem_cons.mp hds
  have d63 : v_iv (n_v vs 6) + (-4294967296) ≤ v_iv (n_v vs 8) ∧ v_iv (n_v vs 8) ≤ v_iv (n_v vs 6) + 23 := d63
  obtain ⟨d64, hds⟩ := List.forall_mem_cons.mp hds
  have d64 : v_iv (n_v vs 7) + (-4294967296) ≤ v_iv (n_v vs 8) ∧ v_iv (n_v vs 8) ≤ v_iv (n_v vs 7) + 24 := d64
  obtain ⟨d65, hds⟩ := List.forall_mem_cons.mp hds
  have d65 : v_iv (n_v vs 10) + (-4294967296) ≤ v_iv (n_v vs 8) ∧ v_iv (n_v vs 8) ≤ v_iv (n_v vs 10) + 23 := d65
  have hf : fc_ok [(6, [24, 10], [1]), (20, [22, 5, 23], [50, 1, 1, 1010, 1001, 4, 11, 0, 6, 4, 2, 1, 0, 0, 1, 2, 1, 10, 1, 2, 1, 2, 9, 5, 3, 1, 1, 1, 0, 0, 256]), (20, [5, 22, 23], [50, 1, 0, 10, 4, 7, 0, 3, 2, 0, 10, 1, 1, 1, 2, 1, 2, 0, -1]), (20, [5, 5], [30, 0, 1, 1, 15, -1, 1, 11]), (20, [5], [50, 3, 0, 12, 11, 15, 2, 21, 4, 7, 1, 3, 2, 0, 12, 0, 1, 0, 3, 2, 0, 11, 4, 3, 2, 0, 15, 0, 8, 3, 7, 1, 3, 2, 0, 12, 0, 0, 0, 7, 4, 3, 2, 0, 15, 0, 1, 2, 0, 11]), (20, [3, 5], [30, 0, 1, 0, 0, -1, 1, 11]), (20, [4, 5], [30, -1, 1, 0, 0, -1, 1, 11]), (20, [5], [50, 1, 0, 12, 1, 3, 2, 0, 12, 0, 1]), (24, [0, 5], []), (24, [1, 6], []), (24, [2, 7], []), (100, [14, 21, 23], []), (20, [22, 5, 23], [50, 1, 1, 1010, 1001, 4, 11, 0, 6, 4, 2, 1, 0, 0, 1, 2, 1, 10, 1, 2, 1, 2, 9, 5, 3, 1, 1, 1, 0, 0, 256]), (20, [5, 22, 23], [50, 1, 0, 10, 4, 7, 0, 3, 2, 0, 10, 1, 1, 1, 2, 1, 2, 0, -1]), (1, [22, 12, 10], []), (9, [12, 5], [15]), (1, [21, 20, 10], []), (1, [20, 17, 19], []), (3, [19, 18, 8], []), (1, [17, 15, 16], []), (9, [15, 5], [5]), (9, [14, 5], [2]), (7, [10, 13], [2]), (2, [13, 11, 12], []), (9, [11, 5], [11]), (20, [5, 5], [30, 0, 1, 1, 15, -1, 1, 11]), (20, [5], [50, 3, 0, 12, 11, 15, 2, 21, 4, 7, 1, 3, 2, 0, 12, 0, 1, 0, 3, 2, 0, 11, 4, 3, 2, 0, 15, 0, 8, 3, 7, 1, 3, 2, 0, 12, 0, 0, 0, 7, 4, 3, 2, 0, 15, 0, 1, 2, 0, 11]), (20, [3, 5], [30, 0, 1, 0, 0, -1, 1, 11]), (20, [4, 5], [30, -1, 1, 0, 0, -1, 1, 11]), (20, [5], [50, 1, 0, 12, 1, 3, 2, 0, 12, 0, 1]), (20, [7, 5], [50, 1, 1, 1005, 1002, 3, 6, 0, 2, 1, 0, 0, -1, 0, 10, 3, 1, 2, 4, 3, 2, 1, 5, 0, 1, 0, 47]), (20, [6, 5], [50, 1, 1, 1005, 1002, 0, 6, 4, 2, 1, 0, 0, 1, 3, 1, 2, 4, 3, 2, 1, 5, 0, 2])] ta ws vs := hf
  obtain ⟨f0, hf⟩ := fc_un (show (6 : Nat) < 100 from by decide) hf
  have f0 : v_iv (n_v vs 24) = v_iv (n_v vs 10) + 1 := f0
  obtain ⟨f1, hf⟩ := fc_un (show (20 : Nat) < 100 from by decide) hf
  have f1 : ((v_iv (n_v vs 22) + 1) ≤ w_fi ws (n_v vs 5) 10) → (v_iv (n_v vs 23) = (w_ei ws (w_ar ws (n_v vs 5) 1) (v_iv (n_v vs 22)) % 256)) := f1
  obtain ⟨f2, hf⟩ := fc_un (show (20 : Nat) < 100 from by decide) hf
  have f2 : (w_fi ws (n_v vs 5) 10 ≤ v_iv (n_v vs 22)) → (v_iv (n_v vs 23) = (-1)) := f2
  obtain ⟨f3, hf⟩ := fc_un (show (20 : Nat) < 100 from by decide) hf
  have f3 : 1 * w_fi ws (n_v vs 5) 15 + ((-1) * w_fi ws (n_v vs 5) 11 + 0) ≤ 0 := f3
  obtain ⟨f4, hf⟩ := fc_un (show (20 : Nat) < 100 from by decide) hf
  have f4 : ((w_fi ws (n_v vs 5) 12 = 1) → (w_fi ws (n_v vs 5) 11 ≤ (w_fi ws (n_v vs 5) 15 + 8))) ∧ ((w_fi ws (n_v vs 5) 12 = 0) ∨ ((w_fi ws (n_v vs 5) 15 + 1) ≤ w_fi ws (n_v vs 5) 11)) := f4
  obtain ⟨f5, hf⟩ := fc_un (show (20 : Nat) < 100 from by decide) hf
  have f5 : 1 * v_iv (n_v vs 3) + ((-1) * w_fi ws (n_v vs 5) 11 + 0) ≤ 0 := f5
  obtain ⟨f6, hf⟩ := fc_un (show (20 : Nat) < 100 from by decide) hf
  have f6 : 1 * v_iv (n_v vs 4) + ((-1) * w_fi ws (n_v vs 5) 11 + 0) ≤ (-1) := f6
  obtain ⟨f7, hf⟩ := fc_un (show (20 : Nat) < 100 from by decide) hf
  have f7 : w_fi ws (n_v vs 5) 12 = 1 := f7
  obtain ⟨f8, hf⟩ := fc_un (show (24 : Nat) < 100 from by decide) hf
  have f8 : n_v vs 0 = n_v vs 5 := f8
  obtain ⟨f9, hf⟩ := fc_un (show (24 : Nat) < 100 from by decide) hf
  have f9 : n_v vs 1 = n_v vs 6 := f9
  obtain ⟨f10, hf⟩ := fc_un (show (24 : Nat) < 100 from by decide) hf
  have f10 : n_v vs 2 = n_v vs 7 := f10
  obtain ⟨ta1, w1, le1, ⟨_, s1⟩, hf⟩ := fc_us (show ¬ (100 : Nat) < 100 from by decide) hf
  have s1 : (∀ b j, w_el ws b j = if b = v_ad (n_v vs 14) ∧ j = (v_iv (n_v vs 21)).toNat then v_iv (n_v vs 23) else w_el w1 b j) ∧ ∀ b k, w_fd ws b k = w_fd w1 b k := s1
  obtain ⟨f12, hf⟩ := fc_un (show (20 : Nat) < 100 from by decide) hf
  have f12 : ((v_iv (n_v vs 22) + 1) ≤ w_fi w1 (n_v vs 5) 10) → (v_iv (n_v vs 23) = (w_ei w1 (w_ar w1 (n_v vs 5) 1) (v_iv (n_v vs 22)) % 256)) := f12
  obtain ⟨f13, hf⟩ := fc_un (show (20 : Nat) < 100 from by decide) hf
  have f13 : (w_fi w1 (n_v vs 5) 10 ≤ v_iv (n_v vs 22)) → (v_iv (n_v vs 23) = (-1)) := f13
  obtain ⟨f14, hf⟩ := fc_un (show (1 : Nat) < 100 from by decide) hf
  have f14 : v_iv (n_v vs 22) = v_iv (n_v vs 12) + v_iv (n_v vs 10) := f14
  obtain ⟨f15, hf⟩ := fc_un (show (9 : Nat) < 100 from by decide) hf
  have f15 : n_v vs 12 = w_fd w1 (v_ad (n_v vs 5)) 15 := f15
  obtain ⟨f16, hf⟩ := fc_un (show (1 : Nat) < 100 from by decide) hf
  have f16 : v_iv (n_v vs 21) = v_iv (n_v vs 20) + v_iv (n_v vs 10) := f16
  obtain ⟨f17, hf⟩ := fc_un (show (1 : Nat) < 100 from by decide) hf
  have f17 : v_iv (n_v vs 20) = v_iv (n_v vs 17) + v_iv (n_v vs 19) := f17
  obtain ⟨f18, hf⟩ := fc_un (show (3 : Nat) < 100 from by decide) hf
  have f18 : v_iv (n_v vs 19) = v_iv (n_v vs 18) * v_iv (n_v vs 8) := f18
  rw [show v_iv (n_v vs 18) = 8 from by omega] at f18
  obtain ⟨f19, hf⟩ := fc_un (show (1 : Nat) < 100 from by decide) hf
  have f19 : v_iv (n_v vs 17) = v_iv (n_v vs 15) + v_iv (n_v vs 16) := f19
  obtain ⟨f20, hf⟩ := fc_un (show (9 : Nat) < 100 from by decide) hf
  have f20 : n_v vs 15 = w_fd w1 (v_ad (n_v vs 5)) 5 := f20
  obtain ⟨f21, hf⟩ := fc_un (show (9 : Nat) < 100 from by decide) hf
  have f21 : n_v vs 14 = w_fd w1 (v_ad (n_v vs 5)) 2 := f21
  obtain ⟨f22, hf⟩ := fc_un (show (7 : Nat) < 100 from by decide) hf
  have f22 : v_iv (n_v vs 10) < v_iv (n_v vs 13) := f22
  obtain ⟨f23, hf⟩ := fc_un (show (2 : Nat) < 100 from by decide) hf
  have f23 : v_iv (n_v vs 13) = v_iv (n_v vs 11) - v_iv (n_v vs 12) := f23
  obtain ⟨f24, hf⟩ := fc_un (show (9 : Nat) < 100 from by decide) hf
  have f24 : n_v vs 11 = w_fd w1 (v_ad (n_v vs 5)) 11 := f24
  obtain ⟨f25, hf⟩ := fc_un (show (20 : Nat) < 100 from by decide) hf
  have f25 : 1 * w_fi w1 (n_v vs 5) 15 + ((-1) * w_fi w1 (n_v vs 5) 11 + 0) ≤ 0 := f25
  obtain ⟨f26, hf⟩ := fc_un (show (20 : Nat) < 100 from by decide) hf
  have f26 : ((w_fi w1 (n_v vs 5) 12 = 1) → (w_fi w1 (n_v vs 5) 11 ≤ (w_fi w1 (n_v vs 5) 15 + 8))) ∧ ((w_fi w1 (n_v vs 5) 12 = 0) ∨ ((w_fi w1 (n_v vs 5) 15 + 1) ≤ w_fi w1 (n_v vs 5) 11)) := f26
  obtain ⟨f27, hf⟩ := fc_un (show (20 : Nat) < 100 from by decide) hf
  have f27 : 1 * v_iv (n_v vs 3) + ((-1) * w_fi w1 (n_v vs 5) 11 + 0) ≤ 0 := f27
  obtain ⟨f28, hf⟩ := fc_un (show (20 : Nat) < 100 from by decide) hf
  have f28 : 1 * v_iv (n_v vs 4) + ((-1) * w_fi w1 (n_v vs 5) 11 + 0) ≤ (-1) := f28
  obtain ⟨f29, hf⟩ := fc_un (show (20 : Nat) < 100 from by decide) hf
  have f29 : w_fi w1 (n_v vs 5) 12 = 1 := f29
  obtain ⟨f30, hf⟩ := fc_un (show (20 : Nat) < 100 from by decide) hf
  have f30 : (v_iv (n_v vs 7) ≤ (-1)) ∨ (w_ei w1 (w_ar w1 (n_v vs 5) 2) ((w_fi w1 (n_v vs 5) 5 + 1)) ≤ 47) := f30
  obtain ⟨f31, hf⟩ := fc_un (show (20 : Nat) < 100 from by decide) hf
  have f31 : (v_iv (n_v vs 6) + 1) ≤ w_ei w1 (w_ar w1 (n_v vs 5) 2) ((w_fi w1 (n_v vs 5) 5 + 2)) := f31
  have q5 : n_v vs 5 = n_v vs 0 := f8.symm
  have q6 : n_v vs 6 = n_v vs 1 := f9.symm
  have q7 : n_v vs 7 = n_v vs 2 := f10.symm
  rw [q5] at f1
  rw [q5] at f2
  rw [q5] at f3
  rw [q5] at f4
  rw [q5] at f5
  rw [q5] at f6
  rw [q5] at f7
  rw [q5] at f12
  rw [q5] at f13
  rw [q5] at f15
  rw [q5] at f20
  rw [q5] at f21
  rw [q5] at f24
  rw [q5] at f25
  rw [q5] at f26
  rw [q5] at f27
  rw [q5] at f28
  rw [q5] at f29
  rw [q5] at f30
  rw [q7] at f30
  rw [q5] at f31
  rw [q6] at f31
  have ar_0_1_1 : w_ar w1 (n_v vs 0) 1 = w_ar ws (n_v vs 0) 1 := by show v_ad (w_fd w1 _ _) = v_ad (w_fd ws _ _); rw [s1.2]
  have cr_0_1 : ta (w_ar ws (n_v vs 0) 1) = some 151 := tv_rg (th_fd hD hth r0 (g := GG_150) rfl (k := 1) (t := (2, 0, 0, [151])) rfl rfl)
  have ar_0_2_1 : w_ar w1 (n_v vs 0) 2 = w_ar ws (n_v vs 0) 2 := by show v_ad (w_fd w1 _ _) = v_ad (w_fd ws _ _); rw [s1.2]
  have cr_0_2 : ta (w_ar ws (n_v vs 0) 2) = some 152 := tv_rg (th_fd hD hth r0 (g := GG_150) rfl (k := 2) (t := (2, 0, 0, [152])) rfl rfl)
  have ad_14 : v_ad (n_v vs 14) = w_ar ws (n_v vs 0) 2 := (congrArg v_ad f21).trans ar_0_2_1
  rw [ar_0_1_1] at f12
  have g15 : v_iv (n_v vs 12) = w_fi w1 (n_v vs 0) 15 := congrArg v_iv f15
  have g20 : v_iv (n_v vs 15) = w_fi w1 (n_v vs 0) 5 := congrArg v_iv f20
  have g24 : v_iv (n_v vs 11) = w_fi w1 (n_v vs 0) 11 := congrArg v_iv f24
  rw [ar_0_2_1] at f30
  rw [ar_0_2_1] at f31
  have fe_0_5_1 : w_fi ws (n_v vs 0) 5 = w_fi w1 (n_v vs 0) 5 := congrArg v_iv (s1.2 _ _)
  have fe_0_10_1 : w_fi ws (n_v vs 0) 10 = w_fi w1 (n_v vs 0) 10 := congrArg v_iv (s1.2 _ _)
  have fe_0_11_1 : w_fi ws (n_v vs 0) 11 = w_fi w1 (n_v vs 0) 11 := congrArg v_iv (s1.2 _ _)
  have fe_0_12_1 : w_fi ws (n_v vs 0) 12 = w_fi w1 (n_v vs 0) 12 := congrArg v_iv (s1.2 _ _)
  have fe_0_15_1 : w_fi ws (n_v vs 0) 15 = w_fi w1 (n_v vs 0) 15 := congrArg v_iv (s1.2 _ _)
  have hE_0_1_1 : ∀ j : Int, w_ei ws (w_ar ws (n_v vs 0) 1) j = w_ei w1 (w_ar ws (n_v vs 0) 1) j := fun j => by unfold w_ei; rw [s1.1, if_neg (fun e => by have e1 := e.1; rw [← e1] at r14; rw [cr_0_1] at r14; exact absurd (Option.some.inj r14) (by decide))]
  have hK_0_1 : ∀ j : Int, 0 ≤ j → j < 2000 → (-128) ≤ w_ei ws (w_ar ws (n_v vs 0) 1) j ∧ w_ei ws (w_ar ws (n_v vs 0) 1) j ≤ 127 := fun j h0 h1 => th_el hD hth cr_0_1 (kd := 1) (n := 2000) (m := 2000) (lo := (-128)) (hi := 127) (rs := []) (L := []) rfl (by decide) (j := j.toNat) (by omega)
  have hE_0_2_1 : ∀ j : Int, 0 ≤ j → (j = v_iv (n_v vs 21) → w_ei ws (w_ar ws (n_v vs 0) 2) j = v_iv (n_v vs 23)) ∧ (j ≠ v_iv (n_v vs 21) → w_ei ws (w_ar ws (n_v vs 0) 2) j = w_ei w1 (w_ar ws (n_v vs 0) 2) j) := fun j hj => ⟨fun h => by unfold w_ei; rw [s1.1, if_pos ⟨ad_14.symm, by rw [h]⟩], fun h => by unfold w_ei; rw [s1.1, if_neg (fun e => h (by have := e.2; omega))]⟩
  have kz_0_10 : 0 ≤ w_fi ws (n_v vs 0) 10 ∧ w_fi ws (n_v vs 0) 10 ≤ 2000 := tv_rng (th_fd hD hth r0 (g := GG_150) rfl (k := 10) (t := (0, 0, 2000, [])) rfl rfl)
  have kz_0_11 : 0 ≤ w_fi ws (n_v vs 0) 11 ∧ w_fi ws (n_v vs 0) 11 ≤ 2000 := tv_rng (th_fd hD hth r0 (g := GG_150) rfl (k := 11) (t := (0, 0, 2000, [])) rfl rfl)
  have kz_0_12 : 0 ≤ w_fi ws (n_v vs 0) 12 ∧ w_fi ws (n_v vs 0) 12 ≤ 4 := tv_rng (th_fd hD hth r0 (g := GG_150) rfl (k := 12) (t := (0, 0, 4, [])) rfl rfl)
  have kz_0_15 : 0 ≤ w_fi ws (n_v vs 0) 15 ∧ w_fi ws (n_v vs 0) 15 ≤ 2000 := tv_rng (th_fd hD hth r0 (g := GG_150) rfl (k := 15) (t := (0, 0, 2000, [])) rfl rfl)
  first | have hJ0 : w_ei w1 (w_ar ws (n_v vs 0) 2) ((w_fi w1 (n_v vs 0) 5 + 1)) = w_ei w1 (w_ar ws (n_v vs 0) 2) ((w_fi ws (n_v vs 0) 5 + 1)) := congrArg _ (show ((w_fi w1 (n_v vs 0) 5 + 1) : Int) = (w_fi ws (n_v vs 0) 5 + 1) from by omega) | skip
  first | have hJ1 : w_ei w1 (w_ar ws (n_v vs 0) 2) ((w_fi w1 (n_v vs 0) 5 + 2)) = w_ei w1 (w_ar ws (n_v vs 0) 2) ((w_fi ws (n_v vs 0) 5 + 2)) := congrArg _ (show ((w_fi w1 (n_v vs 0) 5 + 2) : Int) = (w_fi ws (n_v vs 0) 5 + 2) from by omega) | skip
  have hI2 := hE_0_1_1 (v_iv (n_v vs 22))
  first | have hI3 := (hE_0_2_1 ((w_fi ws (n_v vs 0) 5 + 1)) (by omega)).2 (by omega) | have hI3 := (hE_0_2_1 ((w_fi ws (n_v vs 0) 5 + 1)) (by omega)).1 (by omega) | skip
  first | have hI4 := (hE_0_2_1 ((w_fi ws (n_v vs 0) 5 + 2)) (by omega)).2 (by omega) | have hI4 := (hE_0_2_1 ((w_fi ws (n_v vs 0) 5 + 2)) (by omega)).1 (by omega) | skip
  have nf0 : fc_1 (20, [7, 5], [50, 1, 1, 1005, 1002, 3, 6, 0, 2, 1, 0, 0, -1, 0, 10, 3, 1, 2, 4, 3, 2, 1, 5, 0, 1, 0, 47]) ws (vs) := by
    refine ⟨fun n hn => ?_, ?_⟩
    · have hn : n ∈ [7, 5] := hn
      rw [hl]
      simp only [List.mem_cons, List.not_mem_nil, or_false] at hn
      show n < 25; omega
    · show (v_iv (n_v vs 7) ≤ (-1)) ∨ (w_ei ws (w_ar ws (n_v vs 5) 2) ((w_fi ws (n_v vs 5) 5 + 1)) ≤ 47)
      rw [q5, q7]
      first | omega | grind
  have nf1 : fc_1 (20, [6, 5], [50, 1, 1, 1005, 1002, 0, 6, 4, 2, 1, 0, 0, 1, 3, 1, 2, 4, 3, 2, 1, 5, 0, 2]) ws (vs) := by
    refine ⟨fun n hn => ?_, ?_⟩
    · have hn : n ∈ [6, 5] := hn
      rw [hl]
      simp only [List.mem_cons, List.not_mem_nil, or_false] at hn
      show n < 25; omega
    · show (v_iv (n_v vs 6) + 1) ≤ w_ei ws (w_ar ws (n_v vs 5) 2) ((w_fi ws (n_v vs 5) 5 + 2))
      rw [q5, q6]
      first | omega | grind
  refine ⟨(fun _ h => (by cases h)), [], trivial, ?_, (fun _ h => (by cases h))⟩
  rw [List.append_nil]
  exact List.forall_mem_cons.mpr ⟨⟨show (20 : Nat) < 100 from by decide, nf0⟩, List.forall_mem_cons.mpr ⟨⟨show (20 : Nat) < 100 from by decide, nf1⟩, (fun _ h => (by cases h))⟩⟩
def o_Mo_met_38 : or_T := (214, 24, [(8, (0, 0, 23, [])), (10, (0, 0, 7, [])), (15, (5, 0, 66297, [539])), (16, (0, 3, 3, [])), (17, (0, 3, 66300, [])), (18, (0, 8, 8, [])), (19, (0, 0, 184, [])), (20, (0, 3, 66484, [])), (21, (0, 3, 66491, [])), (23, (0, 0, 255, []))], [(1, [21, 20, 10], []), (1, [20, 17, 19], []), (3, [19, 18, 8], []), (1, [17, 15, 16], [])], [], [], [(18, [21, 23], [1])], [], [(21, 10, 3, 66484), (21, 20, 0, 7), (21, 19, 3, 66307), (21, 17, 0, 191), (21, 15, 3, 194), (20, 19, 3, 66300), (20, 17, 0, 184), (20, 15, 3, 187), (17, 15, 3, 3), (8, 10, -4294967296, 23)])
theorem oo_Mo_met_38 {kA : Nat → ClassId} : or_ok kA GG o_Mo_met_38 := by
  intro A ta ws vs hD hth hl hk hds hf
  have hl : vs.length = 24 := hl
  have hk : ∀ q ∈ ([(8, (0, 0, 23, [])), (10, (0, 0, 7, [])), (15, (5, 0, 66297, [539])), (16, (0, 3, 3, [])), (17, (0, 3, 66300, [])), (18, (0, 8, 8, [])), (19, (0, 0, 184, [])), (20, (0, 3, 66484, [])), (21, (0, 3, 66491, [])), (23, (0, 0, 255, []))] : List (Nat × tv_T)), tv_ok ta q.2 (n_v vs q.1) := hk
  obtain ⟨t8, hk⟩ := List.forall_mem_cons.mp hk
  have t8 : tv_ok ta (0, 0, 23, []) (n_v vs 8) := t8
  have k8 : 0 ≤ v_iv (n_v vs 8) ∧ v_iv (n_v vs 8) ≤ 23 := tv_rng t8
  obtain ⟨t10, hk⟩ := List.forall_mem_cons.mp hk
  have t10 : tv_ok ta (0, 0, 7, []) (n_v vs 10) := t10
  have k10 : 0 ≤ v_iv (n_v vs 10) ∧ v_iv (n_v vs 10) ≤ 7 := tv_rng t10
  obtain ⟨t15, hk⟩ := List.forall_mem_cons.mp hk
  have t15 : tv_ok ta (5, 0, 66297, [539]) (n_v vs 15) := t15
  obtain ⟨k15, q15_⟩ : (0 ≤ v_iv (n_v vs 15) ∧ v_iv (n_v vs 15) ≤ 66297) ∧ ∃ q : Int, v_iv (n_v vs 15) = 539 * q := tv_dvk t15
  obtain ⟨q15, hq15⟩ := q15_
  obtain ⟨t16, hk⟩ := List.forall_mem_cons.mp hk
  have t16 : tv_ok ta (0, 3, 3, []) (n_v vs 16) := t16
  have k16 : 3 ≤ v_iv (n_v vs 16) ∧ v_iv (n_v vs 16) ≤ 3 := tv_rng t16
  obtain ⟨t17, hk⟩ := List.forall_mem_cons.mp hk
  have t17 : tv_ok ta (0, 3, 66300, []) (n_v vs 17) := t17
  have k17 : 3 ≤ v_iv (n_v vs 17) ∧ v_iv (n_v vs 17) ≤ 66300 := tv_rng t17
  obtain ⟨t18, hk⟩ := List.forall_mem_cons.mp hk
  have t18 : tv_ok ta (0, 8, 8, []) (n_v vs 18) := t18
  have k18 : 8 ≤ v_iv (n_v vs 18) ∧ v_iv (n_v vs 18) ≤ 8 := tv_rng t18
  obtain ⟨t19, hk⟩ := List.forall_mem_cons.mp hk
  have t19 : tv_ok ta (0, 0, 184, []) (n_v vs 19) := t19
  have k19 : 0 ≤ v_iv (n_v vs 19) ∧ v_iv (n_v vs 19) ≤ 184 := tv_rng t19
  obtain ⟨t20, hk⟩ := List.forall_mem_cons.mp hk
  have t20 : tv_ok ta (0, 3, 66484, []) (n_v vs 20) := t20
  have k20 : 3 ≤ v_iv (n_v vs 20) ∧ v_iv (n_v vs 20) ≤ 66484 := tv_rng t20
  obtain ⟨t21, hk⟩ := List.forall_mem_cons.mp hk
  have t21 : tv_ok ta (0, 3, 66491, []) (n_v vs 21) := t21
  have k21 : 3 ≤ v_iv (n_v vs 21) ∧ v_iv (n_v vs 21) ≤ 66491 := tv_rng t21
  obtain ⟨t23, hk⟩ := List.forall_mem_cons.mp hk
  have t23 : tv_ok ta (0, 0, 255, []) (n_v vs 23) := t23
  have k23 : 0 ≤ v_iv (n_v vs 23) ∧ v_iv (n_v vs 23) ≤ 255 := tv_rng t23
  have hds : ∀ q ∈ ([(21, 10, 3, 66484), (21, 20, 0, 7), (21, 19, 3, 66307), (21, 17, 0, 191), (21, 15, 3, 194), (20, 19, 3, 66300), (20, 17, 0, 184), (20, 15, 3, 187), (17, 15, 3, 3), (8, 10, -4294967296, 23)] : List of_T), n_iv vs q.2.1 + q.2.2.1 ≤ n_iv vs q.1 ∧ n_iv vs q.1 ≤ n_iv vs q.2.1 + q.2.2.2 := hds
  obtain ⟨d0, hds⟩ := List.forall_mem_cons.mp hds
  have d0 : v_iv (n_v vs 10) + 3 ≤ v_iv (n_v vs 21) ∧ v_iv (n_v vs 21) ≤ v_iv (n_v vs 10) + 66484 := d0
  obtain ⟨d1, hds⟩ := List.forall_mem_cons.mp hds
  have d1 : v_iv (n_v vs 20) + 0 ≤ v_iv (n_v vs 21) ∧ v_iv (n_v vs 21) ≤ v_iv (n_v vs 20) + 7 := d1
  obtain ⟨d2, hds⟩ := List.forall_mem_cons.mp hds
  have d2 : v_iv (n_v vs 19) + 3 ≤ v_iv (n_v vs 21) ∧ v_iv (n_v vs 21) ≤ v_iv (n_v vs 19) + 66307 := d2
  obtain ⟨d3, hds⟩ := List.forall_mem_cons.mp hds
  have d3 : v_iv (n_v vs 17) + 0 ≤ v_iv (n_v vs 21) ∧ v_iv (n_v vs 21) ≤ v_iv (n_v vs 17) + 191 := d3
  obtain ⟨d4, hds⟩ := List.forall_mem_cons.mp hds
  have d4 : v_iv (n_v vs 15) + 3 ≤ v_iv (n_v vs 21) ∧ v_iv (n_v vs 21) ≤ v_iv (n_v vs 15) + 194 := d4
  obtain ⟨d5, hds⟩ := List.forall_mem_cons.mp hds
  have d5 : v_iv (n_v vs 19) + 3 ≤ v_iv (n_v vs 20) ∧ v_iv (n_v vs 20) ≤ v_iv (n_v vs 19) + 66300 := d5
  obtain ⟨d6, hds⟩ := List.forall_mem_cons.mp hds
  have d6 : v_iv (n_v vs 17) + 0 ≤ v_iv (n_v vs 20) ∧ v_iv (n_v vs 20) ≤ v_iv (n_v vs 17) + 184 := d6
  obtain ⟨d7, hds⟩ := List.forall_mem_cons.mp hds
  have d7 : v_iv (n_v vs 15) + 3 ≤ v_iv (n_v vs 20) ∧ v_iv (n_v vs 20) ≤ v_iv (n_v vs 15) + 187 := d7
  obtain ⟨d8, hds⟩ := List.forall_mem_cons.mp hds
  have d8 : v_iv (n_v vs 15) + 3 ≤ v_iv (n_v vs 17) ∧ v_iv (n_v vs 17) ≤ v_iv (n_v vs 15) + 3 := d8
  obtain ⟨d9, hds⟩ := List.forall_mem_cons.mp hds
  have d9 : v_iv (n_v vs 10) + (-4294967296) ≤ v_iv (n_v vs 8) ∧ v_iv (n_v vs 8) ≤ v_iv (n_v vs 10) + 23 := d9
  have hf : fc_ok [(1, [21, 20, 10], []), (1, [20, 17, 19], []), (3, [19, 18, 8], []), (1, [17, 15, 16], [])] ta ws vs := hf
  obtain ⟨f0, hf⟩ := fc_un (show (1 : Nat) < 100 from by decide) hf
  have f0 : v_iv (n_v vs 21) = v_iv (n_v vs 20) + v_iv (n_v vs 10) := f0
  obtain ⟨f1, hf⟩ := fc_un (show (1 : Nat) < 100 from by decide) hf
  have f1 : v_iv (n_v vs 20) = v_iv (n_v vs 17) + v_iv (n_v vs 19) := f1
  obtain ⟨f2, hf⟩ := fc_un (show (3 : Nat) < 100 from by decide) hf
  have f2 : v_iv (n_v vs 19) = v_iv (n_v vs 18) * v_iv (n_v vs 8) := f2
  rw [show v_iv (n_v vs 18) = 8 from by omega] at f2
  obtain ⟨f3, hf⟩ := fc_un (show (1 : Nat) < 100 from by decide) hf
  have f3 : v_iv (n_v vs 17) = v_iv (n_v vs 15) + v_iv (n_v vs 16) := f3
  have nf0 : fc_1 (18, [21, 23], [1]) ws (vs) := by
    refine ⟨fun n hn => ?_, ?_⟩
    · have hn : n ∈ [21, 23] := hn
      rw [hl]
      simp only [List.mem_cons, List.not_mem_nil, or_false] at hn
      show n < 24; omega
    · show pl_ok 1 (v_iv (n_v vs 21)).toNat (v_iv (n_v vs 23))
      exact pl_in pl_M1 (lo := 3) (hi := 194) (a := 0) (b := 255) (by decide +kernel) (by omega) (by omega) (by omega) (by omega)
  refine ⟨(fun _ h => (by cases h)), [], trivial, ?_, (fun _ h => (by cases h))⟩
  rw [List.append_nil]
  exact List.forall_mem_cons.mpr ⟨⟨show (18 : Nat) < 100 from by decide, nf0⟩, (fun _ h => (by cases h))⟩
def o_Mo_met_39 : or_T := (171, 25, [(0, (2, 0, 0, [150])), (1, (0, 0, 7, [])), (2, (0, -1, 23, [])), (3, (0, 0, 2000, [])), (4, (0, 0, 2000, [])), (5, (2, 0, 0, [150])), (6, (0, 0, 7, [])), (7, (0, -1, 23, [])), (8, (0, 0, 23, [])), (10, (0, 0, 7, [])), (11, (0, 1, 2000, [])), (12, (0, 0, 1999, [])), (13, (0, 1, 2000, [])), (14, (2, 0, 0, [152])), (15, (0, 0, 66297, [])), (16, (0, 3, 3, [])), (17, (0, 3, 66300, [])), (18, (0, 8, 8, [])), (19, (0, 0, 184, [])), (20, (0, 3, 66484, [])), (21, (0, 3, 66491, [])), (22, (0, 0, 1999, [])), (23, (0, 0, 255, [])), (24, (0, 1, 8, []))], [(6, [24, 10], [1]), (20, [22, 5, 23], [50, 1, 1, 1010, 1001, 4, 11, 0, 6, 4, 2, 1, 0, 0, 1, 2, 1, 10, 1, 2, 1, 2, 9, 5, 3, 1, 1, 1, 0, 0, 256]), (20, [5, 22, 23], [50, 1, 0, 10, 4, 7, 0, 3, 2, 0, 10, 1, 1, 1, 2, 1, 2, 0, -1]), (20, [5, 5], [30, 0, 1, 1, 15, -1, 1, 11]), (20, [5], [50, 3, 0, 12, 11, 15, 2, 21, 4, 7, 1, 3, 2, 0, 12, 0, 1, 0, 3, 2, 0, 11, 4, 3, 2, 0, 15, 0, 8, 3, 7, 1, 3, 2, 0, 12, 0, 0, 0, 7, 4, 3, 2, 0, 15, 0, 1, 2, 0, 11]), (20, [3, 5], [30, 0, 1, 0, 0, -1, 1, 11]), (20, [4, 5], [30, -1, 1, 0, 0, -1, 1, 11]), (20, [5], [50, 1, 0, 12, 1, 3, 2, 0, 12, 0, 1]), (24, [0, 5], []), (24, [1, 6], []), (24, [2, 7], []), (100, [14, 21, 23], []), (20, [22, 5, 23], [50, 1, 1, 1010, 1001, 4, 11, 0, 6, 4, 2, 1, 0, 0, 1, 2, 1, 10, 1, 2, 1, 2, 9, 5, 3, 1, 1, 1, 0, 0, 256]), (20, [5, 22, 23], [50, 1, 0, 10, 4, 7, 0, 3, 2, 0, 10, 1, 1, 1, 2, 1, 2, 0, -1]), (1, [22, 12, 10], []), (9, [12, 5], [15]), (1, [21, 20, 10], []), (1, [20, 17, 19], []), (3, [19, 18, 8], []), (1, [17, 15, 16], []), (9, [15, 5], [5]), (9, [14, 5], [2]), (7, [10, 13], [2]), (2, [13, 11, 12], []), (9, [11, 5], [11]), (20, [5, 5], [30, 0, 1, 1, 15, -1, 1, 11]), (20, [5], [50, 3, 0, 12, 11, 15, 2, 21, 4, 7, 1, 3, 2, 0, 12, 0, 1, 0, 3, 2, 0, 11, 4, 3, 2, 0, 15, 0, 8, 3, 7, 1, 3, 2, 0, 12, 0, 0, 0, 7, 4, 3, 2, 0, 15, 0, 1, 2, 0, 11]), (20, [3, 5], [30, 0, 1, 0, 0, -1, 1, 11]), (20, [4, 5], [30, -1, 1, 0, 0, -1, 1, 11]), (20, [5], [50, 1, 0, 12, 1, 3, 2, 0, 12, 0, 1]), (20, [7, 5], [50, 1, 1, 1005, 1002, 3, 6, 0, 2, 1, 0, 0, -1, 0, 10, 3, 1, 2, 4, 3, 2, 1, 5, 0, 1, 0, 47]), (20, [6, 5], [50, 1, 1, 1005, 1002, 0, 6, 4, 2, 1, 0, 0, 1, 3, 1, 2, 4, 3, 2, 1, 5, 0, 2])], [], [], [(20, [7, 5], [50, 1, 1, 1005, 1002, 3, 6, 0, 2, 1, 0, 0, -1, 0, 10, 3, 1, 2, 4, 3, 2, 1, 5, 0, 1, 0, 47]), (20, [6, 5], [50, 1, 1, 1005, 1002, 0, 6, 4, 2, 1, 0, 0, 1, 3, 1, 2, 4, 3, 2, 1, 5, 0, 2])], [], [(24, 10, 1, 1), (24, 13, -4294967296, 0), (22, 10, 0, 2000), (22, 13, -4294967296, 1999), (22, 12, 0, 7), (21, 10, 3, 66484), (21, 13, -4294967296, 66483), (21, 20, 0, 7), (21, 19, 3, 66307), (21, 17, 0, 191), (21, 15, 3, 194), (20, 19, 3, 66300), (20, 17, 0, 184), (20, 15, 3, 187), (17, 15, 3, 3), (10, 13, -4294967296, -1), (13, 11, -2000, 0), (1, 2, -4294967296, 8), (1, 3, -4294967296, 7), (1, 4, -4294967296, 7), (1, 6, -4294967296, 0), (1, 7, -4294967296, 8), (1, 8, -4294967296, 7), (1, 10, -4294967296, 7), (2, 1, -4294967296, 23), (2, 3, -4294967296, 23), (2, 4, -4294967296, 23), (2, 6, -4294967296, 23), (2, 7, -4294967296, 0), (2, 8, -4294967296, 23), (2, 10, -4294967296, 23), (3, 1, -4294967296, 2000), (3, 2, -4294967296, 2001), (3, 4, -4294967296, 2000), (3, 6, -4294967296, 2000), (3, 7, -4294967296, 2001), (3, 8, -4294967296, 2000), (3, 10, -4294967296, 2000), (4, 1, -4294967296, 2000), (4, 2, -4294967296, 2001), (4, 3, -4294967296, 2000), (4, 6, -4294967296, 2000), (4, 7, -4294967296, 2001), (4, 8, -4294967296, 2000), (4, 10, -4294967296, 2000), (6, 1, -4294967296, 0), (6, 2, -4294967296, 8), (6, 3, -4294967296, 7), (6, 4, -4294967296, 7), (6, 7, -4294967296, 8), (6, 8, -4294967296, 7), (6, 10, -4294967296, 7), (7, 1, -4294967296, 23), (7, 2, -4294967296, 0), (7, 3, -4294967296, 23), (7, 4, -4294967296, 23), (7, 6, -4294967296, 23), (7, 8, -4294967296, 23), (7, 10, -4294967296, 23), (8, 1, -4294967296, 23), (8, 2, -4294967296, 24), (8, 3, -4294967296, 23), (8, 4, -4294967296, 23), (8, 6, -4294967296, 23), (8, 7, -4294967296, 24), (8, 10, -4294967296, 23)])
theorem oo_Mo_met_39 {kA : Nat → ClassId} : or_ok kA GG o_Mo_met_39 := by
  intro A ta ws vs hD hth hl hk hds hf
  have hl : vs.length = 25 := hl
  have hk : ∀ q ∈ ([(0, (2, 0, 0, [150])), (1, (0, 0, 7, [])), (2, (0, -1, 23, [])), (3, (0, 0, 2000, [])), (4, (0, 0, 2000, [])), (5, (2, 0, 0, [150])), (6, (0, 0, 7, [])), (7, (0, -1, 23, [])), (8, (0, 0, 23, [])), (10, (0, 0, 7, [])), (11, (0, 1, 2000, [])), (12, (0, 0, 1999, [])), (13, (0, 1, 2000, [])), (14, (2, 0, 0, [152])), (15, (0, 0, 66297, [])), (16, (0, 3, 3, [])), (17, (0, 3, 66300, [])), (18, (0, 8, 8, [])), (19, (0, 0, 184, [])), (20, (0, 3, 66484, [])), (21, (0, 3, 66491, [])), (22, (0, 0, 1999, [])), (23, (0, 0, 255, [])), (24, (0, 1, 8, []))] : List (Nat × tv_T)), tv_ok ta q.2 (n_v vs q.1) := hk
  obtain ⟨t0, hk⟩ := List.forall_mem_cons.mp hk
  have t0 : tv_ok ta (2, 0, 0, [150]) (n_v vs 0) := t0
  have r0 : ta (v_ad (n_v vs 0)) = some 150 := tv_rg t0
  obtain ⟨t1, hk⟩ := List.forall_mem_cons.mp hk
  have t1 : tv_ok ta (0, 0, 7, []) (n_v vs 1) := t1
  have k1 : 0 ≤ v_iv (n_v vs 1) ∧ v_iv (n_v vs 1) ≤ 7 := tv_rng t1
  obtain ⟨t2, hk⟩ := List.forall_mem_cons.mp hk
  have t2 : tv_ok ta (0, -1, 23, []) (n_v vs 2) := t2
  have k2 : (-1) ≤ v_iv (n_v vs 2) ∧ v_iv (n_v vs 2) ≤ 23 := tv_rng t2
  obtain ⟨t3, hk⟩ := List.forall_mem_cons.mp hk
  have t3 : tv_ok ta (0, 0, 2000, []) (n_v vs 3) := t3
  have k3 : 0 ≤ v_iv (n_v vs 3) ∧ v_iv (n_v vs 3) ≤ 2000 := tv_rng t3
  obtain ⟨t4, hk⟩ := List.forall_mem_cons.mp hk
  have t4 : tv_ok ta (0, 0, 2000, []) (n_v vs 4) := t4
  have k4 : 0 ≤ v_iv (n_v vs 4) ∧ v_iv (n_v vs 4) ≤ 2000 := tv_rng t4
  obtain ⟨t5, hk⟩ := List.forall_mem_cons.mp hk
  have t5 : tv_ok ta (2, 0, 0, [150]) (n_v vs 5) := t5
  have r5 : ta (v_ad (n_v vs 5)) = some 150 := tv_rg t5
  obtain ⟨t6, hk⟩ := List.forall_mem_cons.mp hk
  have t6 : tv_ok ta (0, 0, 7, []) (n_v vs 6) := t6
  have k6 : 0 ≤ v_iv (n_v vs 6) ∧ v_iv (n_v vs 6) ≤ 7 := tv_rng t6
  obtain ⟨t7, hk⟩ := List.forall_mem_cons.mp hk
  have t7 : tv_ok ta (0, -1, 23, []) (n_v vs 7) := t7
  have k7 : (-1) ≤ v_iv (n_v vs 7) ∧ v_iv (n_v vs 7) ≤ 23 := tv_rng t7
  obtain ⟨t8, hk⟩ := List.forall_mem_cons.mp hk
  have t8 : tv_ok ta (0, 0, 23, []) (n_v vs 8) := t8
  have k8 : 0 ≤ v_iv (n_v vs 8) ∧ v_iv (n_v vs 8) ≤ 23 := tv_rng t8
  obtain ⟨t10, hk⟩ := List.forall_mem_cons.mp hk
  have t10 : tv_ok ta (0, 0, 7, []) (n_v vs 10) := t10
  have k10 : 0 ≤ v_iv (n_v vs 10) ∧ v_iv (n_v vs 10) ≤ 7 := tv_rng t10
  obtain ⟨t11, hk⟩ := List.forall_mem_cons.mp hk
  have t11 : tv_ok ta (0, 1, 2000, []) (n_v vs 11) := t11
  have k11 : 1 ≤ v_iv (n_v vs 11) ∧ v_iv (n_v vs 11) ≤ 2000 := tv_rng t11
  obtain ⟨t12, hk⟩ := List.forall_mem_cons.mp hk
  have t12 : tv_ok ta (0, 0, 1999, []) (n_v vs 12) := t12
  have k12 : 0 ≤ v_iv (n_v vs 12) ∧ v_iv (n_v vs 12) ≤ 1999 := tv_rng t12
  obtain ⟨t13, hk⟩ := List.forall_mem_cons.mp hk
  have t13 : tv_ok ta (0, 1, 2000, []) (n_v vs 13) := t13
  have k13 : 1 ≤ v_iv (n_v vs 13) ∧ v_iv (n_v vs 13) ≤ 2000 := tv_rng t13
  obtain ⟨t14, hk⟩ := List.forall_mem_cons.mp hk
  have t14 : tv_ok ta (2, 0, 0, [152]) (n_v vs 14) := t14
  have r14 : ta (v_ad (n_v vs 14)) = some 152 := tv_rg t14
  obtain ⟨t15, hk⟩ := List.forall_mem_cons.mp hk
  have t15 : tv_ok ta (0, 0, 66297, []) (n_v vs 15) := t15
  have k15 : 0 ≤ v_iv (n_v vs 15) ∧ v_iv (n_v vs 15) ≤ 66297 := tv_rng t15
  obtain ⟨t16, hk⟩ := List.forall_mem_cons.mp hk
  have t16 : tv_ok ta (0, 3, 3, []) (n_v vs 16) := t16
  have k16 : 3 ≤ v_iv (n_v vs 16) ∧ v_iv (n_v vs 16) ≤ 3 := tv_rng t16
  obtain ⟨t17, hk⟩ := List.forall_mem_cons.mp hk
  have t17 : tv_ok ta (0, 3, 66300, []) (n_v vs 17) := t17
  have k17 : 3 ≤ v_iv (n_v vs 17) ∧ v_iv (n_v vs 17) ≤ 66300 := tv_rng t17
  obtain ⟨t18, hk⟩ := List.forall_mem_cons.mp hk
  have t18 : tv_ok ta (0, 8, 8, []) (n_v vs 18) := t18
  have k18 : 8 ≤ v_iv (n_v vs 18) ∧ v_iv (n_v vs 18) ≤ 8 := tv_rng t18
  obtain ⟨t19, hk⟩ := List.forall_mem_cons.mp hk
  have t19 : tv_ok ta (0, 0, 184, []) (n_v vs 19) := t19
  have k19 : 0 ≤ v_iv (n_v vs 19) ∧ v_iv (n_v vs 19) ≤ 184 := tv_rng t19
  obtain ⟨t20, hk⟩ := List.forall_mem_cons.mp hk
  have t20 : tv_ok ta (0, 3, 66484, []) (n_v vs 20) := t20
  have k20 : 3 ≤ v_iv (n_v vs 20) ∧ v_iv (n_v vs 20) ≤ 66484 := tv_rng t20
  obtain ⟨t21, hk⟩ := List.forall_mem_cons.mp hk
  have t21 : tv_ok ta (0, 3, 66491, []) (n_v vs 21) := t21
  have k21 : 3 ≤ v_iv (n_v vs 21) ∧ v_iv (n_v vs 21) ≤ 66491 := tv_rng t21
  obtain ⟨t22, hk⟩ := List.forall_mem_cons.mp hk
  have t22 : tv_ok ta (0, 0, 1999, []) (n_v vs 22) := t22
  have k22 : 0 ≤ v_iv (n_v vs 22) ∧ v_iv (n_v vs 22) ≤ 1999 := tv_rng t22
  obtain ⟨t23, hk⟩ := List.forall_mem_cons.mp hk
  have t23 : tv_ok ta (0, 0, 255, []) (n_v vs 23) := t23
  have k23 : 0 ≤ v_iv (n_v vs 23) ∧ v_iv (n_v vs 23) ≤ 255 := tv_rng t23
  obtain ⟨t24, hk⟩ := List.forall_mem_cons.mp hk
  have t24 : tv_ok ta (0, 1, 8, []) (n_v vs 24) := t24
  have k24 : 1 ≤ v_iv (n_v vs 24) ∧ v_iv (n_v vs 24) ≤ 8 := tv_rng t24
  have hds : ∀ q ∈ ([(24, 10, 1, 1), (24, 13, -4294967296, 0), (22, 10, 0, 2000), (22, 13, -4294967296, 1999), (22, 12, 0, 7), (21, 10, 3, 66484), (21, 13, -4294967296, 66483), (21, 20, 0, 7), (21, 19, 3, 66307), (21, 17, 0, 191), (21, 15, 3, 194), (20, 19, 3, 66300), (20, 17, 0, 184), (20, 15, 3, 187), (17, 15, 3, 3), (10, 13, -4294967296, -1), (13, 11, -2000, 0), (1, 2, -4294967296, 8), (1, 3, -4294967296, 7), (1, 4, -4294967296, 7), (1, 6, -4294967296, 0), (1, 7, -4294967296, 8), (1, 8, -4294967296, 7), (1, 10, -4294967296, 7), (2, 1, -4294967296, 23), (2, 3, -4294967296, 23), (2, 4, -4294967296, 23), (2, 6, -4294967296, 23), (2, 7, -4294967296, 0), (2, 8, -4294967296, 23), (2, 10, -4294967296, 23), (3, 1, -4294967296, 2000), (3, 2, -4294967296, 2001), (3, 4, -4294967296, 2000), (3, 6, -4294967296, 2000), (3, 7, -4294967296, 2001), (3, 8, -4294967296, 2000), (3, 10, -4294967296, 2000), (4, 1, -4294967296, 2000), (4, 2, -4294967296, 2001), (4, 3, -4294967296, 2000), (4, 6, -4294967296, 2000), (4, 7, -4294967296, 2001), (4, 8, -4294967296, 2000), (4, 10, -4294967296, 2000), (6, 1, -4294967296, 0), (6, 2, -4294967296, 8), (6, 3, -4294967296, 7), (6, 4, -4294967296, 7), (6, 7, -4294967296, 8), (6, 8, -4294967296, 7), (6, 10, -4294967296, 7), (7, 1, -4294967296, 23), (7, 2, -4294967296, 0), (7, 3, -4294967296, 23), (7, 4, -4294967296, 23), (7, 6, -4294967296, 23), (7, 8, -4294967296, 23), (7, 10, -4294967296, 23), (8, 1, -4294967296, 23), (8, 2, -4294967296, 24), (8, 3, -4294967296, 23), (8, 4, -4294967296, 23), (8, 6, -4294967296, 23), (8, 7, -4294967296, 24), (8, 10, -4294967296, 23)] : List of_T), n_iv vs q.2.1 + q.2.2.1 ≤ n_iv vs q.1 ∧ n_iv vs q.1 ≤ n_iv vs q.2.1 + q.2.2.2 := hds
  obtain ⟨d0, hds⟩ := List.forall_mem_cons.mp hds
  have d0 : v_iv (n_v vs 10) + 1 ≤ v_iv (n_v vs 24) ∧ v_iv (n_v vs 24) ≤ v_iv (n_v vs 10) + 1 := d0
  obtain ⟨d1, hds⟩ := List.forall_mem_cons.mp hds
  have d1 : v_iv (n_v vs 13) + (-4294967296) ≤ v_iv (n_v vs 24) ∧ v_iv (n_v vs 24) ≤ v_iv (n_v vs 13) + 0 := d1
  obtain ⟨d2, hds⟩ := List.forall_mem_cons.mp hds
  have d2 : v_iv (n_v vs 10) + 0 ≤ v_iv (n_v vs 22) ∧ v_iv (n_v vs 22) ≤ v_iv (n_v vs 10) + 2000 := d2
  obtain ⟨d3, hds⟩ := List.forall_mem_cons.mp hds
  have d3 : v_iv (n_v vs 13) + (-4294967296) ≤ v_iv (n_v vs 22) ∧ v_iv (n_v vs 22) ≤ v_iv (n_v vs 13) + 1999 := d3
  obtain ⟨d4, hds⟩ := List.forall_mem_cons.mp hds
  have d4 : v_iv (n_v vs 12) + 0 ≤ v_iv (n_v vs 22) ∧ v_iv (n_v vs 22) ≤ v_iv (n_v vs 12) + 7 := d4
  obtain ⟨d5, hds⟩ := List.forall_mem_cons.mp hds
  have d5 : v_iv (n_v vs 10) + 3 ≤ v_iv (n_v vs 21) ∧ v_iv (n_v vs 21) ≤ v_iv (n_v vs 10) + 66484 := d5
  obtain ⟨d6, hds⟩ := List.forall_mem_cons.mp hds
  have d6 : v_iv (n_v vs 13) + (-4294967296) ≤ v_iv (n_v vs 21) ∧ v_iv (n_v vs 21) ≤ v_iv (n_v vs 13) + 66483 := d6
  obtain ⟨d7, hds⟩ := List.forall_mem_cons.mp hds
  have d7 : v_iv (n_v vs 20) + 0 ≤ v_iv (n_v vs 21) ∧ v_iv (n_v vs 21) ≤ v_iv (n_v vs 20) + 7 := d7
  obtain ⟨d8, hds⟩ := List.forall_mem_cons.mp hds
  have d8 : v_iv (n_v vs 19) + 3 ≤ v_iv (n_v vs 21) ∧ v_iv (n_v vs 21) ≤ v_iv (n_v vs 19) + 66307 := d8
  obtain ⟨d9, hds⟩ := List.forall_mem_cons.mp hds
  have d9 : v_iv (n_v vs 17) + 0 ≤ v_iv (n_v vs 21) ∧ v_iv (n_v vs 21) ≤ v_iv (n_v vs 17) + 191 := d9
  obtain ⟨d10, hds⟩ := List.forall_mem_cons.mp hds
  have d10 : v_iv (n_v vs 15) + 3 ≤ v_iv (n_v vs 21) ∧ v_iv (n_v vs 21) ≤ v_iv (n_v vs 15) + 194 := d10
  obtain ⟨d11, hds⟩ := List.forall_mem_cons.mp hds
  have d11 : v_iv (n_v vs 19) + 3 ≤ v_iv (n_v vs 20) ∧ v_iv (n_v vs 20) ≤ v_iv (n_v vs 19) + 66300 := d11
  obtain ⟨d12, hds⟩ := List.forall_mem_cons.mp hds
  have d12 : v_iv (n_v vs 17) + 0 ≤ v_iv (n_v vs 20) ∧ v_iv (n_v vs 20) ≤ v_iv (n_v vs 17) + 184 := d12
  obtain ⟨d13, hds⟩ := List.forall_mem_cons.mp hds
  have d13 : v_iv (n_v vs 15) + 3 ≤ v_iv (n_v vs 20) ∧ v_iv (n_v vs 20) ≤ v_iv (n_v vs 15) + 187 := d13
  obtain ⟨d14, hds⟩ := List.forall_mem_cons.mp hds
  have d14 : v_iv (n_v vs 15) + 3 ≤ v_iv (n_v vs 17) ∧ v_iv (n_v vs 17) ≤ v_iv (n_v vs 15) + 3 := d14
  obtain ⟨d15, hds⟩ := List.forall_mem_cons.mp hds
  have d15 : v_iv (n_v vs 13) + (-4294967296) ≤ v_iv (n_v vs 10) ∧ v_iv (n_v vs 10) ≤ v_iv (n_v vs 13) + (-1) := d15
  obtain ⟨d16, hds⟩ := List.forall_mem_cons.mp hds
  have d16 : v_iv (n_v vs 11) + (-2000) ≤ v_iv (n_v vs 13) ∧ v_iv (n_v vs 13) ≤ v_iv (n_v vs 11) + 0 := d16
  obtain ⟨d17, hds⟩ := List.forall_mem_cons.mp hds
  have d17 : v_iv (n_v vs 2) + (-4294967296) ≤ v_iv (n_v vs 1) ∧ v_iv (n_v vs 1) ≤ v_iv (n_v vs 2) + 8 := d17
  obtain ⟨d18, hds⟩ := List.forall_mem_cons.mp hds
  have d18 : v_iv (n_v vs 3) + (-4294967296) ≤ v_iv (n_v vs 1) ∧ v_iv (n_v vs 1) ≤ v_iv (n_v vs 3) + 7 := d18
  obtain ⟨d19, hds⟩ := List.forall_mem_cons.mp hds
  have d19 : v_iv (n_v vs 4) + (-4294967296) ≤ v_iv (n_v vs 1) ∧ v_iv (n_v vs 1) ≤ v_iv (n_v vs 4) + 7 := d19
  obtain ⟨d20, hds⟩ := List.forall_mem_cons.mp hds
  have d20 : v_iv (n_v vs 6) + (-4294967296) ≤ v_iv (n_v vs 1) ∧ v_iv (n_v vs 1) ≤ v_iv (n_v vs 6) + 0 := d20
  obtain ⟨d21, hds⟩ := List.forall_mem_cons.mp hds
  have d21 : v_iv (n_v vs 7) + (-4294967296) ≤ v_iv (n_v vs 1) ∧ v_iv (n_v vs 1) ≤ v_iv (n_v vs 7) + 8 := d21
  obtain ⟨d22, hds⟩ := List.forall_mem_cons.mp hds
  have d22 : v_iv (n_v vs 8) + (-4294967296) ≤ v_iv (n_v vs 1) ∧ v_iv (n_v vs 1) ≤ v_iv (n_v vs 8) + 7 := d22
  obtain ⟨d23, hds⟩ := List.forall_mem_cons.mp hds
  have d23 : v_iv (n_v vs 10) + (-4294967296) ≤ v_iv (n_v vs 1) ∧ v_iv (n_v vs 1) ≤ v_iv (n_v vs 10) + 7 := d23
  obtain ⟨d24, hds⟩ := List.forall_mem_cons.mp hds
  have d24 : v_iv (n_v vs 1) + (-4294967296) ≤ v_iv (n_v vs 2) ∧ v_iv (n_v vs 2) ≤ v_iv (n_v vs 1) + 23 := d24
  obtain ⟨d25, hds⟩ := List.forall_mem_cons.mp hds
  have d25 : v_iv (n_v vs 3) + (-4294967296) ≤ v_iv (n_v vs 2) ∧ v_iv (n_v vs 2) ≤ v_iv (n_v vs 3) + 23 := d25
  obtain ⟨d26, hds⟩ := List.forall_mem_cons.mp hds
  have d26 : v_iv (n_v vs 4) + (-4294967296) ≤ v_iv (n_v vs 2) ∧ v_iv (n_v vs 2) ≤ v_iv (n_v vs 4) + 23 := d26
  obtain ⟨d27, hds⟩ := List.forall_mem_cons.mp hds
  have d27 : v_iv (n_v vs 6) + (-4294967296) ≤ v_iv (n_v vs 2) ∧ v_iv (n_v vs 2) ≤ v_iv (n_v vs 6) + 23 := d27
  obtain ⟨d28, hds⟩ := List.forall_mem_cons.mp hds
  have d28 : v_iv (n_v vs 7) + (-4294967296) ≤ v_iv (n_v vs 2) ∧ v_iv (n_v vs 2) ≤ v_iv (n_v vs 7) + 0 := d28
  obtain ⟨d29, hds⟩ := List.forall_mem_cons.mp hds
  have d29 : v_iv (n_v vs 8) + (-4294967296) ≤ v_iv (n_v vs 2) ∧ v_iv (n_v vs 2) ≤ v_iv (n_v vs 8) + 23 := d29
  obtain ⟨d30, hds⟩ := List.forall_mem_cons.mp hds
  have d30 : v_iv (n_v vs 10) + (-4294967296) ≤ v_iv (n_v vs 2) ∧ v_iv (n_v vs 2) ≤ v_iv (n_v vs 10) + 23 := d30
  obtain ⟨d31, hds⟩ := List.forall_mem_cons.mp hds
  have d31 : v_iv (n_v vs 1) + (-4294967296) ≤ v_iv (n_v vs 3) ∧ v_iv (n_v vs 3) ≤ v_iv (n_v vs 1) + 2000 := d31
  obtain ⟨d32, hds⟩ := List.forall_mem_cons.mp hds
  have d32 : v_iv (n_v vs 2) + (-4294967296) ≤ v_iv (n_v vs 3) ∧ v_iv (n_v vs 3) ≤ v_iv (n_v vs 2) + 2001 := d32
  obtain ⟨d33, hds⟩ := List.forall_mem_cons.mp hds
  have d33 : v_iv (n_v vs 4) + (-4294967296) ≤ v_iv (n_v vs 3) ∧ v_iv (n_v vs 3) ≤ v_iv (n_v vs 4) + 2000 := d33
  obtain ⟨d34, hds⟩ := List.forall_mem_cons.mp hds
  have d34 : v_iv (n_v vs 6) + (-4294967296) ≤ v_iv (n_v vs 3) ∧ v_iv (n_v vs 3) ≤ v_iv (n_v vs 6) + 2000 := d34
  obtain ⟨d35, hds⟩ := List.forall_mem_cons.mp hds
  have d35 : v_iv (n_v vs 7) + (-4294967296) ≤ v_iv (n_v vs 3) ∧ v_iv (n_v vs 3) ≤ v_iv (n_v vs 7) + 2001 := d35
  obtain ⟨d36, hds⟩ := List.forall_mem_cons.mp hds
  have d36 : v_iv (n_v vs 8) + (-4294967296) ≤ v_iv (n_v vs 3) ∧ v_iv (n_v vs 3) ≤ v_iv (n_v vs 8) + 2000 := d36
  obtain ⟨d37, hds⟩ := List.forall_mem_cons.mp hds
  have d37 : v_iv (n_v vs 10) + (-4294967296) ≤ v_iv (n_v vs 3) ∧ v_iv (n_v vs 3) ≤ v_iv (n_v vs 10) + 2000 := d37
  obtain ⟨d38, hds⟩ := List.forall_mem_cons.mp hds
  have d38 : v_iv (n_v vs 1) + (-4294967296) ≤ v_iv (n_v vs 4) ∧ v_iv (n_v vs 4) ≤ v_iv (n_v vs 1) + 2000 := d38
  obtain ⟨d39, hds⟩ := List.forall_mem_cons.mp hds
  have d39 : v_iv (n_v vs 2) + (-4294967296) ≤ v_iv (n_v vs 4) ∧ v_iv (n_v vs 4) ≤ v_iv (n_v vs 2) + 2001 := d39
  obtain ⟨d40, hds⟩ := List.forall_mem_cons.mp hds
  have d40 : v_iv (n_v vs 3) + (-4294967296) ≤ v_iv (n_v vs 4) ∧ v_iv (n_v vs 4) ≤ v_iv (n_v vs 3) + 2000 := d40
  obtain ⟨d41, hds⟩ := List.forall_mem_cons.mp hds
  have d41 : v_iv (n_v vs 6) + (-4294967296) ≤ v_iv (n_v vs 4) ∧ v_iv (n_v vs 4) ≤ v_iv (n_v vs 6) + 2000 := d41
  obtain ⟨d42, hds⟩ := List.forall_mem_cons.mp hds
  have d42 : v_iv (n_v vs 7) + (-4294967296) ≤ v_iv (n_v vs 4) ∧ v_iv (n_v vs 4) ≤ v_iv (n_v vs 7) + 2001 := d42
  obtain ⟨d43, hds⟩ := List.forall_mem_cons.mp hds
  have d43 : v_iv (n_v vs 8) + (-4294967296) ≤ v_iv (n_v vs 4) ∧ v_iv (n_v vs 4) ≤ v_iv (n_v vs 8) + 2000 := d43
  obtain ⟨d44, hds⟩ := List.forall_mem_cons.mp hds
  have d44 : v_iv (n_v vs 10) + (-4294967296) ≤ v_iv (n_v vs 4) ∧ v_iv (n_v vs 4) ≤ v_iv (n_v vs 10) + 2000 := d44
  obtain ⟨d45, hds⟩ := List.forall_mem_cons.mp hds
  have d45 : v_iv (n_v vs 1) + (-4294967296) ≤ v_iv (n_v vs 6) ∧ v_iv (n_v vs 6) ≤ v_iv (n_v vs 1) + 0 := d45
  obtain ⟨d46, hds⟩ := List.forall_mem_cons.mp hds
  have d46 : v_iv (n_v vs 2) + (-4294967296) ≤ v_iv (n_v vs 6) ∧ v_iv (n_v vs 6) ≤ v_iv (n_v vs 2) + 8 := d46
  obtain ⟨d47, hds⟩ := List.forall_mem_cons.mp hds
  have d47 : v_iv (n_v vs 3) + (-4294967296) ≤ v_iv (n_v vs 6) ∧ v_iv (n_v vs 6) ≤ v_iv (n_v vs 3) + 7 := d47
  obtain ⟨d48, hds⟩ := List.forall_mem_cons.mp hds
  have d48 : v_iv (n_v vs 4) + (-4294967296) ≤ v_iv (n_v vs 6) ∧ v_iv (n_v vs 6) ≤ v_iv (n_v vs 4) + 7 := d48
  obtain ⟨d49, hds⟩ := List.forall_mem_cons.mp hds
  have d49 : v_iv (n_v vs 7) + (-4294967296) ≤ v_iv (n_v vs 6) ∧ v_iv (n_v vs 6) ≤ v_iv (n_v vs 7) + 8 := d49
  obtain ⟨d50, hds⟩ := List.forall_mem_cons.mp hds
  have d50 : v_iv (n_v vs 8) + (-4294967296) ≤ v_iv (n_v vs 6) ∧ v_iv (n_v vs 6) ≤ v_iv (n_v vs 8) + 7 := d50
  obtain ⟨d51, hds⟩ := List.forall_mem_cons.mp hds
  have d51 : v_iv (n_v vs 10) + (-4294967296) ≤ v_iv (n_v vs 6) ∧ v_iv (n_v vs 6) ≤ v_iv (n_v vs 10) + 7 := d51
  obtain ⟨d52, hds⟩ := List.forall_mem_cons.mp hds
  have d52 : v_iv (n_v vs 1) + (-4294967296) ≤ v_iv (n_v vs 7) ∧ v_iv (n_v vs 7) ≤ v_iv (n_v vs 1) + 23 := d52
  obtain ⟨d53, hds⟩ := List.forall_mem_cons.mp hds
  have d53 : v_iv (n_v vs 2) + (-4294967296) ≤ v_iv (n_v vs 7) ∧ v_iv (n_v vs 7) ≤ v_iv (n_v vs 2) + 0 := d53
  obtain ⟨d54, hds⟩ := List.forall_mem_cons.mp hds
  have d54 : v_iv (n_v vs 3) + (-4294967296) ≤ v_iv (n_v vs 7) ∧ v_iv (n_v vs 7) ≤ v_iv (n_v vs 3) + 23 := d54
  obtain ⟨d55, hds⟩ := List.forall_mem_cons.mp hds
  have d55 : v_iv (n_v vs 4) + (-4294967296) ≤ v_iv (n_v vs 7) ∧ v_iv (n_v vs 7) ≤ v_iv (n_v vs 4) + 23 := d55
  obtain ⟨d56, hds⟩ := List.forall_mem_cons.mp hds
  have d56 : v_iv (n_v vs 6) + (-4294967296) ≤ v_iv (n_v vs 7) ∧ v_iv (n_v vs 7) ≤ v_iv (n_v vs 6) + 23 := d56
  obtain ⟨d57, hds⟩ := List.forall_mem_cons.mp hds
  have d57 : v_iv (n_v vs 8) + (-4294967296) ≤ v_iv (n_v vs 7) ∧ v_iv (n_v vs 7) ≤ v_iv (n_v vs 8) + 23 := d57
  obtain ⟨d58, hds⟩ := List.forall_mem_cons.mp hds
  have d58 : v_iv (n_v vs 10) + (-4294967296) ≤ v_iv (n_v vs 7) ∧ v_iv (n_v vs 7) ≤ v_iv (n_v vs 10) + 23 := d58
  obtain ⟨d59, hds⟩ := List.forall_mem_cons.mp hds
  have d59 : v_iv (n_v vs 1) + (-4294967296) ≤ v_iv (n_v vs 8) ∧ v_iv (n_v vs 8) ≤ v_iv (n_v vs 1) + 23 := d59
  obtain ⟨d60, hds⟩ := List.forall_mem_cons.mp hds
  have d60 : v_iv (n_v vs 2) + (-4294967296) ≤ v_iv (n_v vs 8) ∧ v_iv (n_v vs 8) ≤ v_iv (n_v vs 2) + 24 := d60
  obtain ⟨d61, hds⟩ := List.forall_mem_cons.mp hds
  have d61 : v_iv (n_v vs 3) + (-4294967296) ≤ v_iv (n_v vs 8) ∧ v_iv (n_v vs 8) ≤ v_iv (n_v vs 3) + 23 := d61
  obtain ⟨d62, hds⟩ := List.forall_mem_cons.mp hds
  have d62 : v_iv (n_v vs 4) + (-4294967296) ≤ v_iv (n_v vs 8) ∧ v_iv (n_v vs 8) ≤ v_iv (n_v vs 4) + 23 := d62
  obtain ⟨d63, hds⟩ := List.forall_mem_cons.mp hds
  have d63 : v_iv (n_v vs 6) + (-4294967296) ≤ v_iv (n_v vs 8) ∧ v_iv (n_v vs 8) ≤ v_iv (n_v vs 6) + 23 := d63
  obtain ⟨d64, hds⟩ := List.forall_mem_cons.mp hds
  have d64 : v_iv (n_v vs 7) + (-4294967296) ≤ v_iv (n_v vs 8) ∧ v_iv (n_v vs 8) ≤ v_iv (n_v vs 7) + 24 := d64
  obtain ⟨d65, hds⟩ := List.forall_mem_cons.mp hds
  have d65 : v_iv (n_v vs 10) + (-4294967296) ≤ v_iv (n_v vs 8) ∧ v_iv (n_v vs 8) ≤ v_iv (n_v vs 10) + 23 := d65
  have hf : fc_ok [(6, [24, 10], [1]), (20, [22, 5, 23], [50, 1, 1, 1010, 1001, 4, 11, 0, 6, 4, 2, 1, 0, 0, 1, 2, 1, 10, 1, 2, 1, 2, 9, 5, 3, 1, 1, 1, 0, 0, 256]), (20, [5, 22, 23], [50, 1, 0, 10, 4, 7, 0, 3, 2, 0, 10, 1, 1, 1, 2, 1, 2, 0, -1]), (20, [5, 5], [30, 0, 1, 1, 15, -1, 1, 11]), (20, [5], [50, 3, 0, 12, 11, 15, 2, 21, 4, 7, 1, 3, 2, 0, 12, 0, 1, 0, 3, 2, 0, 11, 4, 3, 2, 0, 15, 0, 8, 3, 7, 1, 3, 2, 0, 12, 0, 0, 0, 7, 4, 3, 2, 0, 15, 0, 1, 2, 0, 11]), (20, [3, 5], [30, 0, 1, 0, 0, -1, 1, 11]), (20, [4, 5], [30, -1, 1, 0, 0, -1, 1, 11]), (20, [5], [50, 1, 0, 12, 1, 3, 2, 0, 12, 0, 1]), (24, [0, 5], []), (24, [1, 6], []), (24, [2, 7], []), (100, [14, 21, 23], []), (20, [22, 5, 23], [50, 1, 1, 1010, 1001, 4, 11, 0, 6, 4, 2, 1, 0, 0, 1, 2, 1, 10, 1, 2, 1, 2, 9, 5, 3, 1, 1, 1, 0, 0, 256]), (20, [5, 22, 23], [50, 1, 0, 10, 4, 7, 0, 3, 2, 0, 10, 1, 1, 1, 2, 1, 2, 0, -1]), (1, [22, 12, 10], []), (9, [12, 5], [15]), (1, [21, 20, 10], []), (1, [20, 17, 19], []), (3, [19, 18, 8], []), (1, [17, 15, 16], []), (9, [15, 5], [5]), (9, [14, 5], [2]), (7, [10, 13], [2]), (2, [13, 11, 12], []), (9, [11, 5], [11]), (20, [5, 5], [30, 0, 1, 1, 15, -1, 1, 11]), (20, [5], [50, 3, 0, 12, 11, 15, 2, 21, 4, 7, 1, 3, 2, 0, 12, 0, 1, 0, 3, 2, 0, 11, 4, 3, 2, 0, 15, 0, 8, 3, 7, 1, 3, 2, 0, 12, 0, 0, 0, 7, 4, 3, 2, 0, 15, 0, 1, 2, 0, 11]), (20, [3, 5], [30, 0, 1, 0, 0, -1, 1, 11]), (20, [4, 5], [30, -1, 1, 0, 0, -1, 1, 11]), (20, [5], [50, 1, 0, 12, 1, 3, 2, 0, 12, 0, 1]), (20, [7, 5], [50, 1, 1, 1005, 1002, 3, 6, 0, 2, 1, 0, 0, -1, 0, 10, 3, 1, 2, 4, 3, 2, 1, 5, 0, 1, 0, 47]), (20, [6, 5], [50, 1, 1, 1005, 1002, 0, 6, 4, 2, 1, 0, 0, 1, 3, 1, 2, 4, 3, 2, 1, 5, 0, 2])] ta ws vs := hf
  obtain ⟨f0, hf⟩ := fc_un (show (6 : Nat) < 100 from by decide) hf
  have f0 : v_iv (n_v vs 24) = v_iv (n_v vs 10) + 1 := f0
  obtain ⟨f1, hf⟩ := fc_un (show (20 : Nat) < 100 from by decide) hf
  have f1 : ((v_iv (n_v vs 22) + 1) ≤ w_fi ws (n_v vs 5) 10) → (v_iv (n_v vs 23) = (w_ei ws (w_ar ws (n_v vs 5) 1) (v_iv (n_v vs 22)) % 256)) := f1
  obtain ⟨f2, hf⟩ := fc_un (show (20 : Nat) < 100 from by decide) hf
  have f2 : (w_fi ws (n_v vs 5) 10 ≤ v_iv (n_v vs 22)) → (v_iv (n_v vs 23) = (-1)) := f2
  obtain ⟨f3, hf⟩ := fc_un (show (20 : Nat) < 100 from by decide) hf
  have f3 : 1 * w_fi ws (n_v vs 5) 15 + ((-1) * w_fi ws (n_v vs 5) 11 + 0) ≤ 0 := f3
  obtain ⟨f4, hf⟩ := fc_un (show (20 : Nat) < 100 from by decide) hf
  have f4 : ((w_fi ws (n_v vs 5) 12 = 1) → (w_fi ws (n_v vs 5) 11 ≤ (w_fi ws (n_v vs 5) 15 + 8))) ∧ ((w_fi ws (n_v vs 5) 12 = 0) ∨ ((w_fi ws (n_v vs 5) 15 + 1) ≤ w_fi ws (n_v vs 5) 11)) := f4
  obtain ⟨f5, hf⟩ := fc_un (show (20 : Nat) < 100 from by decide) hf
  have f5 : 1 * v_iv (n_v vs 3) + ((-1) * w_fi ws (n_v vs 5) 11 + 0) ≤ 0 := f5
  obtain ⟨f6, hf⟩ := fc_un (show (20 : Nat) < 100 from by decide) hf
  have f6 : 1 * v_iv (n_v vs 4) + ((-1) * w_fi ws (n_v vs 5) 11 + 0) ≤ (-1) := f6
  obtain ⟨f7, hf⟩ := fc_un (show (20 : Nat) < 100 from by decide) hf
  have f7 : w_fi ws (n_v vs 5) 12 = 1 := f7
  obtain ⟨f8, hf⟩ := fc_un (show (24 : Nat) < 100 from by decide) hf
  have f8 : n_v vs 0 = n_v vs 5 := f8
  obtain ⟨f9, hf⟩ := fc_un (show (24 : Nat) < 100 from by decide) hf
  have f9 : n_v vs 1 = n_v vs 6 := f9
  obtain ⟨f10, hf⟩ := fc_un (show (24 : Nat) < 100 from by decide) hf
  have f10 : n_v vs 2 = n_v vs 7 := f10
  obtain ⟨ta1, w1, le1, ⟨_, s1⟩, hf⟩ := fc_us (show ¬ (100 : Nat) < 100 from by decide) hf
  have s1 : (∀ b j, w_el ws b j = if b = v_ad (n_v vs 14) ∧ j = (v_iv (n_v vs 21)).toNat then v_iv (n_v vs 23) else w_el w1 b j) ∧ ∀ b k, w_fd ws b k = w_fd w1 b k := s1
  obtain ⟨f12, hf⟩ := fc_un (show (20 : Nat) < 100 from by decide) hf
  have f12 : ((v_iv (n_v vs 22) + 1) ≤ w_fi w1 (n_v vs 5) 10) → (v_iv (n_v vs 23) = (w_ei w1 (w_ar w1 (n_v vs 5) 1) (v_iv (n_v vs 22)) % 256)) := f12
  obtain ⟨f13, hf⟩ := fc_un (show (20 : Nat) < 100 from by decide) hf
  have f13 : (w_fi w1 (n_v vs 5) 10 ≤ v_iv (n_v vs 22)) → (v_iv (n_v vs 23) = (-1)) := f13
  obtain ⟨f14, hf⟩ := fc_un (show (1 : Nat) < 100 from by decide) hf
  have f14 : v_iv (n_v vs 22) = v_iv (n_v vs 12) + v_iv (n_v vs 10) := f14
  obtain ⟨f15, hf⟩ := fc_un (show (9 : Nat) < 100 from by decide) hf
  have f15 : n_v vs 12 = w_fd w1 (v_ad (n_v vs 5)) 15 := f15
  obtain ⟨f16, hf⟩ := fc_un (show (1 : Nat) < 100 from by decide) hf
  have f16 : v_iv (n_v vs 21) = v_iv (n_v vs 20) + v_iv (n_v vs 10) := f16
  obtain ⟨f17, hf⟩ := fc_un (show (1 : Nat) < 100 from by decide) hf
  have f17 : v_iv (n_v vs 20) = v_iv (n_v vs 17) + v_iv (n_v vs 19) := f17
  obtain ⟨f18, hf⟩ := fc_un (show (3 : Nat) < 100 from by decide) hf
  have f18 : v_iv (n_v vs 19) = v_iv (n_v vs 18) * v_iv (n_v vs 8) := f18
  rw [show v_iv (n_v vs 18) = 8 from by omega] at f18
  obtain ⟨f19, hf⟩ := fc_un (show (1 : Nat) < 100 from by decide) hf
  have f19 : v_iv (n_v vs 17) = v_iv (n_v vs 15) + v_iv (n_v vs 16) := f19
  obtain ⟨f20, hf⟩ := fc_un (show (9 : Nat) < 100 from by decide) hf
  have f20 : n_v vs 15 = w_fd w1 (v_ad (n_v vs 5)) 5 := f20
  obtain ⟨f21, hf⟩ := fc_un (show (9 : Nat) < 100 from by decide) hf
  have f21 : n_v vs 14 = w_fd w1 (v_ad (n_v vs 5)) 2 := f21
  obtain ⟨f22, hf⟩ := fc_un (show (7 : Nat) < 100 from by decide) hf
  have f22 : v_iv (n_v vs 10) < v_iv (n_v vs 13) := f22
  obtain ⟨f23, hf⟩ := fc_un (show (2 : Nat) < 100 from by decide) hf
  have f23 : v_iv (n_v vs 13) = v_iv (n_v vs 11) - v_iv (n_v vs 12) := f23
  obtain ⟨f24, hf⟩ := fc_un (show (9 : Nat) < 100 from by decide) hf
  have f24 : n_v vs 11 = w_fd w1 (v_ad (n_v vs 5)) 11 := f24
  obtain ⟨f25, hf⟩ := fc_un (show (20 : Nat) < 100 from by decide) hf
  have f25 : 1 * w_fi w1 (n_v vs 5) 15 + ((-1) * w_fi w1 (n_v vs 5) 11 + 0) ≤ 0 := f25
  obtain ⟨f26, hf⟩ := fc_un (show (20 : Nat) < 100 from by decide) hf
  have f26 : ((w_fi w1 (n_v vs 5) 12 = 1) → (w_fi w1 (n_v vs 5) 11 ≤ (w_fi w1 (n_v vs 5) 15 + 8))) ∧ ((w_fi w1 (n_v vs 5) 12 = 0) ∨ ((w_fi w1 (n_v vs 5) 15 + 1) ≤ w_fi w1 (n_v vs 5) 11)) := f26
  obtain ⟨f27, hf⟩ := fc_un (show (20 : Nat) < 100 from by decide) hf
  have f27 : 1 * v_iv (n_v vs 3) + ((-1) * w_fi w1 (n_v vs 5) 11 + 0) ≤ 0 := f27
  obtain ⟨f28, hf⟩ := fc_un (show (20 : Nat) < 100 from by decide) hf
  have f28 : 1 * v_iv (n_v vs 4) + ((-1) * w_fi w1 (n_v vs 5) 11 + 0) ≤ (-1) := f28
  obtain ⟨f29, hf⟩ := fc_un (show (20 : Nat) < 100 from by decide) hf
  have f29 : w_fi w1 (n_v vs 5) 12 = 1 := f29
  obtain ⟨f30, hf⟩ := fc_un (show (20 : Nat) < 100 from by decide) hf
  have f30 : (v_iv (n_v vs 7) ≤ (-1)) ∨ (w_ei w1 (w_ar w1 (n_v vs 5) 2) ((w_fi w1 (n_v vs 5) 5 + 1)) ≤ 47) := f30
  obtain ⟨f31, hf⟩ := fc_un (show (20 : Nat) < 100 from by decide) hf
  have f31 : (v_iv (n_v vs 6) + 1) ≤ w_ei w1 (w_ar w1 (n_v vs 5) 2) ((w_fi w1 (n_v vs 5) 5 + 2)) := f31
  have q5 : n_v vs 5 = n_v vs 0 := f8.symm
  have q6 : n_v vs 6 = n_v vs 1 := f9.symm
  have q7 : n_v vs 7 = n_v vs 2 := f10.symm
  rw [q5] at f1
  rw [q5] at f2
  rw [q5] at f3
  rw [q5] at f4
  rw [q5] at f5
  rw [q5] at f6
  rw [q5] at f7
  rw [q5] at f12
  rw [q5] at f13
  rw [q5] at f15
  rw [q5] at f20
  rw [q5] at f21
  rw [q5] at f24
  rw [q5] at f25
  rw [q5] at f26
  rw [q5] at f27
  rw [q5] at f28
  rw [q5] at f29
  rw [q5] at f30
  rw [q7] at f30
  rw [q5] at f31
  rw [q6] at f31
  have ar_0_1_1 : w_ar w1 (n_v vs 0) 1 = w_ar ws (n_v vs 0) 1 := by show v_ad (w_fd w1 _ _) = v_ad (w_fd ws _ _); rw [s1.2]
  have cr_0_1 : ta (w_ar ws (n_v vs 0) 1) = some 151 := tv_rg (th_fd hD hth r0 (g := GG_150) rfl (k := 1) (t := (2, 0, 0, [151])) rfl rfl)
  have ar_0_2_1 : w_ar w1 (n_v vs 0) 2 = w_ar ws (n_v vs 0) 2 := by show v_ad (w_fd w1 _ _) = v_ad (w_fd ws _ _); rw [s1.2]
  have cr_0_2 : ta (w_ar ws (n_v vs 0) 2) = some 152 := tv_rg (th_fd hD hth r0 (g := GG_150) rfl (k := 2) (t := (2, 0, 0, [152])) rfl rfl)
  have ad_14 : v_ad (n_v vs 14) = w_ar ws (n_v vs 0) 2 := (congrArg v_ad f21).trans ar_0_2_1
  rw [ar_0_1_1] at f12
  have g15 : v_iv (n_v vs 12) = w_fi w1 (n_v vs 0) 15 := congrArg v_iv f15
  have g20 : v_iv (n_v vs 15) = w_fi w1 (n_v vs 0) 5 := congrArg v_iv f20
  have g24 : v_iv (n_v vs 11) = w_fi w1 (n_v vs 0) 11 := congrArg v_iv f24
  rw [ar_0_2_1] at f30
  rw [ar_0_2_1] at f31
  have fe_0_5_1 : w_fi ws (n_v vs 0) 5 = w_fi w1 (n_v vs 0) 5 := congrArg v_iv (s1.2 _ _)
  have fe_0_10_1 : w_fi ws (n_v vs 0) 10 = w_fi w1 (n_v vs 0) 10 := congrArg v_iv (s1.2 _ _)
  have fe_0_11_1 : w_fi ws (n_v vs 0) 11 = w_fi w1 (n_v vs 0) 11 := congrArg v_iv (s1.2 _ _)
  have fe_0_12_1 : w_fi ws (n_v vs 0) 12 = w_fi w1 (n_v vs 0) 12 := congrArg v_iv (s1.2 _ _)
  have fe_0_15_1 : w_fi ws (n_v vs 0) 15 = w_fi w1 (n_v vs 0) 15 := congrArg v_iv (s1.2 _ _)
  have hE_0_1_1 : ∀ j : Int, w_ei ws (w_ar ws (n_v vs 0) 1) j = w_ei w1 (w_ar ws (n_v vs 0) 1) j := fun j => by unfold w_ei; rw [s1.1, if_neg (fun e => by have e1 := e.1; rw [← e1] at r14; rw [cr_0_1] at r14; exact absurd (Option.some.inj r14) (by decide))]
  have hK_0_1 : ∀ j : Int, 0 ≤ j → j < 2000 → (-128) ≤ w_ei ws (w_ar ws (n_v vs 0) 1) j ∧ w_ei ws (w_ar ws (n_v vs 0) 1) j ≤ 127 := fun j h0 h1 => th_el hD hth cr_0_1 (kd := 1) (n := 2000) (m := 2000) (lo := (-128)) (hi := 127) (rs := []) (L := []) rfl (by decide) (j := j.toNat) (by omega)
  have hE_0_2_1 : ∀ j : Int, 0 ≤ j → (j = v_iv (n_v vs 21) → w_ei ws (w_ar ws (n_v vs 0) 2) j = v_iv (n_v vs 23)) ∧ (j ≠ v_iv (n_v vs 21) → w_ei ws (w_ar ws (n_v vs 0) 2) j = w_ei w1 (w_ar ws (n_v vs 0) 2) j) := fun j hj => ⟨fun h => by unfold w_ei; rw [s1.1, if_pos ⟨ad_14.symm, by rw [h]⟩], fun h => by unfold w_ei; rw [s1.1, if_neg (fun e => h (by have := e.2; omega))]⟩
  have kz_0_10 : 0 ≤ w_fi ws (n_v vs 0) 10 ∧ w_fi ws (n_v vs 0) 10 ≤ 2000 := tv_rng (th_fd hD hth r0 (g := GG_150) rfl (k := 10) (t := (0, 0, 2000, [])) rfl rfl)
  have kz_0_11 : 0 ≤ w_fi ws (n_v vs 0) 11 ∧ w_fi ws (n_v vs 0) 11 ≤ 2000 := tv_rng (th_fd hD hth r0 (g := GG_150) rfl (k := 11) (t := (0, 0, 2000, [])) rfl rfl)
  have kz_0_12 : 0 ≤ w_fi ws (n_v vs 0) 12 ∧ w_fi ws (n_v vs 0) 12 ≤ 4 := tv_rng (th_fd hD hth r0 (g := GG_150) rfl (k := 12) (t := (0, 0, 4, [])) rfl rfl)
  have kz_0_15 : 0 ≤ w_fi ws (n_v vs 0) 15 ∧ w_fi ws (n_v vs 0) 15 ≤ 2000 := tv_rng (th_fd hD hth r0 (g := GG_150) rfl (k := 15) (t := (0, 0, 2000, [])) rfl rfl)
  first | have hJ0 : w_ei w1 (w_ar ws (n_v vs 0) 2) ((w_fi w1 (n_v vs 0) 5 + 1)) = w_ei w1 (w_ar ws (n_v vs 0) 2) ((w_fi ws (n_v vs 0) 5 + 1)) := congrArg _ (show ((w_fi w1 (n_v vs 0) 5 + 1) : Int) = (w_fi ws (n_v vs 0) 5 + 1) from by omega) | skip
  first | have hJ1 : w_ei w1 (w_ar ws (n_v vs 0) 2) ((w_fi w1 (n_v vs 0) 5 + 2)) = w_ei w1 (w_ar ws (n_v vs 0) 2) ((w_fi ws (n_v vs 0) 5 + 2)) := congrArg _ (show ((w_fi w1 (n_v vs 0) 5 + 2) : Int) = (w_fi ws (n_v vs 0) 5 + 2) from by omega) | skip
  have hI2 := hE_0_1_1 (v_iv (n_v vs 22))
  first | have hI3 := (hE_0_2_1 ((w_fi ws (n_v vs 0) 5 + 1)) (by omega)).2 (by omega) | have hI3 := (hE_0_2_1 ((w_fi ws (n_v vs 0) 5 + 1)) (by omega)).1 (by omega) | skip
  first | have hI4 := (hE_0_2_1 ((w_fi ws (n_v vs 0) 5 + 2)) (by omega)).2 (by omega) | have hI4 := (hE_0_2_1 ((w_fi ws (n_v vs 0) 5 + 2)) (by omega)).1 (by omega) | skip
  have nf0 : fc_1 (20, [7, 5], [50, 1, 1, 1005, 1002, 3, 6, 0, 2, 1, 0, 0, -1, 0, 10, 3, 1, 2, 4, 3, 2, 1, 5, 0, 1, 0, 47]) ws (vs) := by
    refine ⟨fun n hn => ?_, ?_⟩
    · have hn : n ∈ [7, 5] := hn
      rw [hl]
      simp only [List.mem_cons, List.not_mem_nil, or_false] at hn
      show n < 25; omega
    · show (v_iv (n_v vs 7) ≤ (-1)) ∨ (w_ei ws (w_ar ws (n_v vs 5) 2) ((w_fi ws (n_v vs 5) 5 + 1)) ≤ 47)
      rw [q5, q7]
      first | omega | grind
  have nf1 : fc_1 (20, [6, 5], [50, 1, 1, 1005, 1002, 0, 6, 4, 2, 1, 0, 0, 1, 3, 1, 2, 4, 3, 2, 1, 5, 0, 2]) ws (vs) := by
    refine ⟨fun n hn => ?_, ?_⟩
    · have hn : n ∈ [6, 5] := hn
      rw [hl]
      simp only [List.mem_cons, List.not_mem_nil, or_false] at hn
      show n < 25; omega
    · show (v_iv (n_v vs 6) + 1) ≤ w_ei ws (w_ar ws (n_v vs 5) 2) ((w_fi ws (n_v vs 5) 5 + 2))
      rw [q5, q6]
      first | omega | grind
  refine ⟨(fun _ h => (by cases h)), [], trivial, ?_, (fun _ h => (by cases h))⟩
  rw [List.append_nil]
  exact List.forall_mem_cons.mpr ⟨⟨show (20 : Nat) < 100 from by decide, nf0⟩, List.forall_mem_cons.mpr ⟨⟨show (20 : Nat) < 100 from by decide, nf1⟩, (fun _ h => (by cases h))⟩⟩
def n_Mo_met_an : List an_T := [(171, [(0, (2, 0, 0, [150])), (1, (0, 0, 7, [])), (2, (0, -1, 23, [])), (3, (0, 0, 23, [])), (4, (0, 0, 0, [])), (5, (0, 0, 8, []))], [], (0, 0), [(0, 0, 99829), (1, 10, 8), (0, 0, 100000)], [(1, 2, -1000000000000, 8), (1, 3, -1000000000000, 7), (1, 4, -1000000000000, 7), (1, 6, -1000000000000, 0), (1, 7, -1000000000000, 8), (1, 8, -1000000000000, 7), (1, 9, -1000000000000, 7), (1, 10, -1000000000000, 7), (2, 1, -1000000000000, 23), (2, 3, -1000000000000, 23), (2, 4, -1000000000000, 23), (2, 6, -1000000000000, 23), (2, 7, -1000000000000, 0), (2, 8, -1000000000000, 23), (2, 9, -1000000000000, 23), (2, 10, -1000000000000, 23), (3, 1, -1000000000000, 2000), (3, 2, -1000000000000, 2001), (3, 4, -1000000000000, 2000), (3, 6, -1000000000000, 2000), (3, 7, -1000000000000, 2001), (3, 8, -1000000000000, 2000), (3, 9, -1000000000000, 2000), (3, 10, -1000000000000, 2000), (4, 1, -1000000000000, 2000), (4, 2, -1000000000000, 2001), (4, 3, -1000000000000, 2000), (4, 6, -1000000000000, 2000), (4, 7, -1000000000000, 2001), (4, 8, -1000000000000, 2000), (4, 9, -1000000000000, 2000), (4, 10, -1000000000000, 2000), (6, 1, -1000000000000, 0), (6, 2, -1000000000000, 8), (6, 3, -1000000000000, 7), (6, 4, -1000000000000, 7), (6, 7, -1000000000000, 8), (6, 8, -1000000000000, 7), (6, 9, -1000000000000, 7), (6, 10, -1000000000000, 7), (7, 1, -1000000000000, 23), (7, 2, -1000000000000, 0), (7, 3, -1000000000000, 23), (7, 4, -1000000000000, 23), (7, 6, -1000000000000, 23), (7, 8, -1000000000000, 23), (7, 9, -1000000000000, 23), (7, 10, -1000000000000, 23), (8, 1, -1000000000000, 23), (8, 2, -1000000000000, 24), (8, 3, -1000000000000, 23), (8, 4, -1000000000000, 23), (8, 6, -1000000000000, 23), (8, 7, -1000000000000, 24), (8, 9, -1000000000000, 23), (8, 10, -1000000000000, 23), (9, 1, -1000000000000, 0), (9, 2, -1000000000000, 1), (9, 3, -1000000000000, 0), (9, 4, -1000000000000, 0), (9, 6, -1000000000000, 0), (9, 7, -1000000000000, 1), (9, 8, -1000000000000, 0), (9, 10, -1000000000000, 0)], [], [(2, 0, 0, [150]), (0, 0, 7, []), (0, -1, 23, []), (0, 0, 2000, []), (0, 0, 2000, [])], 0, [], [(20, [5, 5], [30, 0, 1, 1, 15, -1, 1, 11]), (20, [5], [50, 3, 0, 12, 11, 15, 2, 21, 4, 7, 1, 3, 2, 0, 12, 0, 1, 0, 3, 2, 0, 11, 4, 3, 2, 0, 15, 0, 8, 3, 7, 1, 3, 2, 0, 12, 0, 0, 0, 7, 4, 3, 2, 0, 15, 0, 1, 2, 0, 11]), (20, [3, 5], [30, 0, 1, 0, 0, -1, 1, 11]), (20, [4, 5], [30, -1, 1, 0, 0, -1, 1, 11]), (20, [5], [50, 1, 0, 12, 1, 3, 2, 0, 12, 0, 1]), (20, [7, 5], [50, 1, 1, 1005, 1002, 3, 6, 0, 2, 1, 0, 0, -1, 0, 10, 3, 1, 2, 4, 3, 2, 1, 5, 0, 1, 0, 47]), (20, [6, 5], [50, 1, 1, 1005, 1002, 0, 6, 4, 2, 1, 0, 0, 1, 3, 1, 2, 4, 3, 2, 1, 5, 0, 2]), (24, [0, 5], []), (24, [1, 6], []), (24, [2, 7], [])])]
def t_Mo_met_ct : ct_L := [(1, 401, e_Mo_edges), (1, 425, e_Mo_byteAt), (1, 460, e_Mo_next), (1, 463, e_Mo_wrong), (1, 475, e_Mo_nodes), (1, 481, e_Mo_isName), (1, 485, e_Mo_known), (1, 488, e_Mo_between)]
set_option maxRecDepth 100000 in
theorem c_Mo_met {l : Launch} {D : va_G} {kA : Nat → ClassId} (h_Mo_between : ct_ok l D kA GG y_Mo_between z_Mo_between e_Mo_between) (h_Mo_byteAt : ct_ok l D kA GG y_Mo_byteAt z_Mo_byteAt e_Mo_byteAt) (h_Mo_edges : ct_ok l D kA GG y_Mo_edges z_Mo_edges e_Mo_edges) (h_Mo_isName : ct_ok l D kA GG y_Mo_isName z_Mo_isName e_Mo_isName) (h_Mo_known : ct_ok l D kA GG y_Mo_known z_Mo_known e_Mo_known) (h_Mo_next : ct_ok l D kA GG y_Mo_next z_Mo_next e_Mo_next) (h_Mo_nodes : ct_ok l D kA GG y_Mo_nodes z_Mo_nodes e_Mo_nodes) (h_Mo_wrong : ct_ok l D kA GG y_Mo_wrong z_Mo_wrong e_Mo_wrong) : ct_ok l D kA GG y_Mo_met z_Mo_met e_Mo_met := chk_all_ok (FT := [(16, 13, 2), (391, 13, 5), (413, 13, 8), (422, 13, 11), (428, 13, 13), (431, 13, 15)]) (PT := []) (CT := t_Mo_met_ct) (KT := []) (NT := []) (AN := n_Mo_met_an) (OT := [o_Mo_met_0, o_Mo_met_1, o_Mo_met_2, o_Mo_met_3, o_Mo_met_4, o_Mo_met_5, o_Mo_met_6, o_Mo_met_7, o_Mo_met_8, o_Mo_met_9, o_Mo_met_10, o_Mo_met_11, o_Mo_met_12, o_Mo_met_13, o_Mo_met_14, o_Mo_met_15, o_Mo_met_16, o_Mo_met_17, o_Mo_met_18, o_Mo_met_19, o_Mo_met_20, o_Mo_met_21, o_Mo_met_22, o_Mo_met_23, o_Mo_met_24, o_Mo_met_25, o_Mo_met_26, o_Mo_met_27, o_Mo_met_28, o_Mo_met_29, o_Mo_met_30, o_Mo_met_31, o_Mo_met_32, o_Mo_met_33, o_Mo_met_34, o_Mo_met_35, o_Mo_met_36, o_Mo_met_37, o_Mo_met_38, o_Mo_met_39]) 3 1380 (List.forall_mem_cons.mpr ⟨oo_Mo_met_0, List.forall_mem_cons.mpr ⟨oo_Mo_met_1, List.forall_mem_cons.mpr ⟨oo_Mo_met_2, List.forall_mem_cons.mpr ⟨oo_Mo_met_3, List.forall_mem_cons.mpr ⟨oo_Mo_met_4, List.forall_mem_cons.mpr ⟨oo_Mo_met_5, List.forall_mem_cons.mpr ⟨oo_Mo_met_6, List.forall_mem_cons.mpr ⟨oo_Mo_met_7, List.forall_mem_cons.mpr ⟨oo_Mo_met_8, List.forall_mem_cons.mpr ⟨oo_Mo_met_9, List.forall_mem_cons.mpr ⟨oo_Mo_met_10, List.forall_mem_cons.mpr ⟨oo_Mo_met_11, List.forall_mem_cons.mpr ⟨oo_Mo_met_12, List.forall_mem_cons.mpr ⟨oo_Mo_met_13, List.forall_mem_cons.mpr ⟨oo_Mo_met_14, List.forall_mem_cons.mpr ⟨oo_Mo_met_15, List.forall_mem_cons.mpr ⟨oo_Mo_met_16, List.forall_mem_cons.mpr ⟨oo_Mo_met_17, List.forall_mem_cons.mpr ⟨oo_Mo_met_18, List.forall_mem_cons.mpr ⟨oo_Mo_met_19, List.forall_mem_cons.mpr ⟨oo_Mo_met_20, List.forall_mem_cons.mpr ⟨oo_Mo_met_21, List.forall_mem_cons.mpr ⟨oo_Mo_met_22, List.forall_mem_cons.mpr ⟨oo_Mo_met_23, List.forall_mem_cons.mpr ⟨oo_Mo_met_24, List.forall_mem_cons.mpr ⟨oo_Mo_met_25, List.forall_mem_cons.mpr ⟨oo_Mo_met_26, List.forall_mem_cons.mpr ⟨oo_Mo_met_27, List.forall_mem_cons.mpr ⟨oo_Mo_met_28, List.forall_mem_cons.mpr ⟨oo_Mo_met_29, List.forall_mem_cons.mpr ⟨oo_Mo_met_30, List.forall_mem_cons.mpr ⟨oo_Mo_met_31, List.forall_mem_cons.mpr ⟨oo_Mo_met_32, List.forall_mem_cons.mpr ⟨oo_Mo_met_33, List.forall_mem_cons.mpr ⟨oo_Mo_met_34, List.forall_mem_cons.mpr ⟨oo_Mo_met_35, List.forall_mem_cons.mpr ⟨oo_Mo_met_36, List.forall_mem_cons.mpr ⟨oo_Mo_met_37, List.forall_mem_cons.mpr ⟨oo_Mo_met_38, List.forall_mem_cons.mpr ⟨oo_Mo_met_39, List.forall_mem_nil _⟩⟩⟩⟩⟩⟩⟩⟩⟩⟩⟩⟩⟩⟩⟩⟩⟩⟩⟩⟩⟩⟩⟩⟩⟩⟩⟩⟩⟩⟩⟩⟩⟩⟩⟩⟩⟩⟩⟩⟩) (by decide +kernel) ⟨List.forall_mem_cons.mpr ⟨gf_Mo_16, List.forall_mem_cons.mpr ⟨gf_Mo_391, List.forall_mem_cons.mpr ⟨gf_Mo_413, List.forall_mem_cons.mpr ⟨gf_Mo_422, List.forall_mem_cons.mpr ⟨gf_Mo_428, List.forall_mem_cons.mpr ⟨gf_Mo_431, List.forall_mem_nil _⟩⟩⟩⟩⟩⟩, List.forall_mem_nil _, List.forall_mem_cons.mpr ⟨cl_virtual (y := y_Mo_edges) (ci := 13) rfl rfl ⟨_, _, rfl⟩ (by decide +kernel) h_Mo_edges wm_3037 wm_9 wm_3034 wm_3036 wv_13_6 ⟨by decide, by decide, by decide +kernel⟩ (by decide), List.forall_mem_cons.mpr ⟨cl_virtual (y := y_Mo_byteAt) (ci := 13) rfl rfl ⟨_, _, rfl⟩ (by decide +kernel) h_Mo_byteAt wm_2986 wm_9 wm_2983 wm_2985 wv_12_12 ⟨by decide, by decide, by decide +kernel⟩ (by decide), List.forall_mem_cons.mpr ⟨cl_virtual (y := y_Mo_next) (ci := 13) rfl rfl ⟨_, _, rfl⟩ (by decide +kernel) h_Mo_next wm_2982 wm_9 wm_2979 wm_2981 wv_12_11 ⟨by decide, by decide, by decide +kernel⟩ (by decide), List.forall_mem_cons.mpr ⟨cl_virtual (y := y_Mo_wrong) (ci := 13) rfl rfl ⟨_, _, rfl⟩ (by decide +kernel) h_Mo_wrong wm_3017 wm_9 wm_3014 wm_3016 wv_13_1 ⟨by decide, by decide, by decide +kernel⟩ (by decide), List.forall_mem_cons.mpr ⟨cl_virtual (y := y_Mo_nodes) (ci := 13) rfl rfl ⟨_, _, rfl⟩ (by decide +kernel) h_Mo_nodes wm_3025 wm_9 wm_3022 wm_3024 wv_13_3 ⟨by decide, by decide, by decide +kernel⟩ (by decide), List.forall_mem_cons.mpr ⟨cl_virtual (y := y_Mo_isName) (ci := 13) rfl rfl ⟨_, _, rfl⟩ (by decide +kernel) h_Mo_isName wm_3012 wm_9 wm_3009 wm_3011 wv_13_0 ⟨by decide, by decide, by decide +kernel⟩ (by decide), List.forall_mem_cons.mpr ⟨cl_virtual (y := y_Mo_known) (ci := 13) rfl rfl ⟨_, _, rfl⟩ (by decide +kernel) h_Mo_known wm_3021 wm_9 wm_3018 wm_3020 wv_13_2 ⟨by decide, by decide, by decide +kernel⟩ (by decide), List.forall_mem_cons.mpr ⟨cl_virtual (y := y_Mo_between) (ci := 13) rfl rfl ⟨_, _, rfl⟩ (by decide +kernel) h_Mo_between wm_3033 wm_9 wm_3030 wm_3032 wv_13_5 ⟨by decide, by decide, by decide +kernel⟩ (by decide), List.forall_mem_nil _⟩⟩⟩⟩⟩⟩⟩⟩, List.forall_mem_nil _, List.forall_mem_nil _, GG_pl⟩ (by decide +kernel)
