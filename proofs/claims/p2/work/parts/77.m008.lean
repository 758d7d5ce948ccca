def o_Mo_same_0 : or_T := (130, 6, [(0, (2, 0, 0, [150])), (4, (0, 0, 0, []))], [], [], [(0, -1, 40100, [])], [(20, [6, 0, 4], [30, 40000, 1, 0, 0, 2, 1, 27, -1, 0, 0]), (20, [6, 0, 4], [30, -40000, -1, 0, 0, -2, 1, 27, 1, 0, 0])], [], [])
theorem oo_Mo_same_0 {kA : Nat → ClassId} : or_ok kA GG o_Mo_same_0 := by
  intro A ta ws vs hD hth hl hk hds hf
  have hl : vs.length = 6 := hl
  have hk : ∀ q ∈ ([(0, (2, 0, 0, [150])), (4, (0, 0, 0, []))] : List (Nat × tv_T)), tv_ok ta q.2 (n_v vs q.1) := hk
  obtain ⟨t0, hk⟩ := List.forall_mem_cons.mp hk
  have t0 : tv_ok ta (2, 0, 0, [150]) (n_v vs 0) := t0
  have r0 : ta (v_ad (n_v vs 0)) = some 150 := tv_rg t0
  obtain ⟨t4, hk⟩ := List.forall_mem_cons.mp hk
  have t4 : tv_ok ta (0, 0, 0, []) (n_v vs 4) := t4
  have k4 : 0 ≤ v_iv (n_v vs 4) ∧ v_iv (n_v vs 4) ≤ 0 := tv_rng t4
  have kz_0_27 : 0 ≤ w_fi ws (n_v vs 0) 27 ∧ w_fi ws (n_v vs 0) 27 ≤ 20000 := tv_rng (th_fd hD hth r0 (g := GG_150) rfl (k := 27) (t := (0, 0, 20000, [])) rfl rfl)
  have kb_0_27 : 0 ≤ w_fi ws (n_v vs 0) 27 ∧ w_fi ws (n_v vs 0) 27 ≤ 20000 := tv_rng (th_fd hD hth r0 (g := GG_150) rfl (k := 27) (t := (0, 0, 20000, [])) rfl rfl)
  obtain ⟨x, ex, hx⟩ := iv_ex (ta := ta) (lo := (-1)) (hi := 40100) (z := 40000 + ((-2) * w_fi ws (n_v vs 0) 27 + (1 * v_iv (n_v vs 4) + 0))) (by omega) (by omega) (by omega) (by omega)
  have ex2 : v_iv (Value.int x) = 40000 + ((-2) * w_fi ws (n_v vs 0) 27 + (1 * v_iv (n_v vs 4) + 0)) := ex
  have ex3 : (-1) ≤ v_iv (Value.int x) ∧ v_iv (Value.int x) ≤ 40100 := tv_rng hx
  have e_0 : n_v (vs ++ [Value.int x]) 0 = n_v vs 0 := n_v_old (by rw [hl]; decide)
  have e_4 : n_v (vs ++ [Value.int x]) 4 = n_v vs 4 := n_v_old (by rw [hl]; decide)
  have e_6 : n_v (vs ++ [Value.int x]) 6 = Value.int x := n_v_new hl
  have nf0 : fc_1 (20, [6, 0, 4], [30, 40000, 1, 0, 0, 2, 1, 27, -1, 0, 0]) ws (vs ++ [Value.int x]) := by
    refine ⟨fun n hn => ?_, ?_⟩
    · have hn : n ∈ [6, 0, 4] := hn
      rw [List.length_append, hl]
      simp only [List.mem_cons, List.not_mem_nil, or_false] at hn
      show n < 6 + 1; omega
    · show 1 * v_iv (n_v (vs ++ [Value.int x]) 6) + (2 * w_fi ws (n_v (vs ++ [Value.int x]) 0) 27 + ((-1) * v_iv (n_v (vs ++ [Value.int x]) 4) + 0)) ≤ 40000
      rw [e_0]
      rw [e_4]
      rw [e_6]
      omega
  have nf1 : fc_1 (20, [6, 0, 4], [30, -40000, -1, 0, 0, -2, 1, 27, 1, 0, 0]) ws (vs ++ [Value.int x]) := by
    refine ⟨fun n hn => ?_, ?_⟩
    · have hn : n ∈ [6, 0, 4] := hn
      rw [List.length_append, hl]
      simp only [List.mem_cons, List.not_mem_nil, or_false] at hn
      show n < 6 + 1; omega
    · show (-1) * v_iv (n_v (vs ++ [Value.int x]) 6) + ((-2) * w_fi ws (n_v (vs ++ [Value.int x]) 0) 27 + (1 * v_iv (n_v (vs ++ [Value.int x]) 4) + 0)) ≤ (-40000)
      rw [e_0]
      rw [e_4]
      rw [e_6]
      omega
  exact ⟨(fun _ h => (by cases h)), [Value.int x], ag_one hx, List.forall_mem_cons.mpr ⟨⟨show (20 : Nat) < 100 from by decide, nf0⟩, List.forall_mem_cons.mpr ⟨⟨show (20 : Nat) < 100 from by decide, nf1⟩, (fun _ h => (by cases h))⟩⟩, (fun _ h => (by cases h))⟩
def o_Mo_same_1 : or_T := (155, 13, [(0, (2, 0, 0, [150])), (3, (0, 1, 24, [])), (4, (0, 0, 23, [])), (7, (0, -1, 40100, [])), (8, (2, 0, 0, [164])), (9, (0, -1, 23, [])), (10, (0, 1, 1, [])), (11, (0, 0, 24, [])), (12, (0, 0, 0, []))], [(1, [11, 9, 10], []), (10, [9, 8, 4], []), (9, [8, 0], [24]), (7, [4, 3], [2]), (8, [4], [3]), (20, [7, 0, 4], [30, 40000, 1, 0, 0, 2, 1, 27, -1, 0, 0]), (20, [7, 0, 4], [30, -40000, -1, 0, 0, -2, 1, 27, 1, 0, 0])], [], [(0, -1, 40100, [])], [(20, [0, 4, 12, 13], [30, -40000, -2, 1, 27, 1, 0, 0, 2, 0, 0, -1, 0, 0]), (23, [11, 3, 12], [24, 1, -1, 25])], [(13, 7, 0, 0)], [(11, 9, 1, 1), (4, 3, -4294967296, -1), (4, 3, -4294967296, 0)])
theorem oo_Mo_same_1 {kA : Nat → ClassId} : or_ok kA GG o_Mo_same_1 := by
  intro A ta ws vs hD hth hl hk hds hf
  have hl : vs.length = 13 := hl
  have hk : ∀ q ∈ ([(0, (2, 0, 0, [150])), (3, (0, 1, 24, [])), (4, (0, 0, 23, [])), (7, (0, -1, 40100, [])), (8, (2, 0, 0, [164])), (9, (0, -1, 23, [])), (10, (0, 1, 1, [])), (11, (0, 0, 24, [])), (12, (0, 0, 0, []))] : List (Nat × tv_T)), tv_ok ta q.2 (n_v vs q.1) := hk
  obtain ⟨t0, hk⟩ := List.forall_mem_cons.mp hk
  have t0 : tv_ok ta (2, 0, 0, [150]) (n_v vs 0) := t0
  have r0 : ta (v_ad (n_v vs 0)) = some 150 := tv_rg t0
  obtain ⟨t3, hk⟩ := List.forall_mem_cons.mp hk
  have t3 : tv_ok ta (0, 1, 24, []) (n_v vs 3) := t3
  have k3 : 1 ≤ v_iv (n_v vs 3) ∧ v_iv (n_v vs 3) ≤ 24 := tv_rng t3
  obtain ⟨t4, hk⟩ := List.forall_mem_cons.mp hk
  have t4 : tv_ok ta (0, 0, 23, []) (n_v vs 4) := t4
  have k4 : 0 ≤ v_iv (n_v vs 4) ∧ v_iv (n_v vs 4) ≤ 23 := tv_rng t4
  obtain ⟨t7, hk⟩ := List.forall_mem_cons.mp hk
  have t7 : tv_ok ta (0, -1, 40100, []) (n_v vs 7) := t7
  have k7 : (-1) ≤ v_iv (n_v vs 7) ∧ v_iv (n_v vs 7) ≤ 40100 := tv_rng t7
  obtain ⟨t8, hk⟩ := List.forall_mem_cons.mp hk
  have t8 : tv_ok ta (2, 0, 0, [164]) (n_v vs 8) := t8
  have r8 : ta (v_ad (n_v vs 8)) = some 164 := tv_rg t8
  obtain ⟨t9, hk⟩ := List.forall_mem_cons.mp hk
  have t9 : tv_ok ta (0, -1, 23, []) (n_v vs 9) := t9
  have k9 : (-1) ≤ v_iv (n_v vs 9) ∧ v_iv (n_v vs 9) ≤ 23 := tv_rng t9
  obtain ⟨t10, hk⟩ := List.forall_mem_cons.mp hk
  have t10 : tv_ok ta (0, 1, 1, []) (n_v vs 10) := t10
  have k10 : 1 ≤ v_iv (n_v vs 10) ∧ v_iv (n_v vs 10) ≤ 1 := tv_rng t10
  obtain ⟨t11, hk⟩ := List.forall_mem_cons.mp hk
  have t11 : tv_ok ta (0, 0, 24, []) (n_v vs 11) := t11
  have k11 : 0 ≤ v_iv (n_v vs 11) ∧ v_iv (n_v vs 11) ≤ 24 := tv_rng t11
  obtain ⟨t12, hk⟩ := List.forall_mem_cons.mp hk
  have t12 : tv_ok ta (0, 0, 0, []) (n_v vs 12) := t12
  have k12 : 0 ≤ v_iv (n_v vs 12) ∧ v_iv (n_v vs 12) ≤ 0 := tv_rng t12
  have hds : ∀ q ∈ ([(11, 9, 1, 1), (4, 3, -4294967296, -1), (4, 3, -4294967296, 0)] : List of_T), n_iv vs q.2.1 + q.2.2.1 ≤ n_iv vs q.1 ∧ n_iv vs q.1 ≤ n_iv vs q.2.1 + q.2.2.2 := hds
  obtain ⟨d0, hds⟩ := List.forall_mem_cons.mp hds
  have d0 : v_iv (n_v vs 9) + 1 ≤ v_iv (n_v vs 11) ∧ v_iv (n_v vs 11) ≤ v_iv (n_v vs 9) + 1 := d0
  obtain ⟨d1, hds⟩ := List.forall_mem_cons.mp hds
  have d1 : v_iv (n_v vs 3) + (-4294967296) ≤ v_iv (n_v vs 4) ∧ v_iv (n_v vs 4) ≤ v_iv (n_v vs 3) + (-1) := d1
  obtain ⟨d2, hds⟩ := List.forall_mem_cons.mp hds
  have d2 : v_iv (n_v vs 3) + (-4294967296) ≤ v_iv (n_v vs 4) ∧ v_iv (n_v vs 4) ≤ v_iv (n_v vs 3) + 0 := d2
  have hf : fc_ok [(1, [11, 9, 10], []), (10, [9, 8, 4], []), (9, [8, 0], [24]), (7, [4, 3], [2]), (8, [4], [3]), (20, [7, 0, 4], [30, 40000, 1, 0, 0, 2, 1, 27, -1, 0, 0]), (20, [7, 0, 4], [30, -40000, -1, 0, 0, -2, 1, 27, 1, 0, 0])] ta ws vs := hf
  obtain ⟨f0, hf⟩ := fc_un (show (1 : Nat) < 100 from by decide) hf
  have f0 : v_iv (n_v vs 11) = v_iv (n_v vs 9) + v_iv (n_v vs 10) := f0
  obtain ⟨f1, hf⟩ := fc_un (show (10 : Nat) < 100 from by decide) hf
  have f1 : v_iv (n_v vs 9) = w_el ws (v_ad (n_v vs 8)) (v_iv (n_v vs 4)).toNat := f1
  obtain ⟨f2, hf⟩ := fc_un (show (9 : Nat) < 100 from by decide) hf
  have f2 : n_v vs 8 = w_fd ws (v_ad (n_v vs 0)) 24 := f2
  obtain ⟨f3, hf⟩ := fc_un (show (7 : Nat) < 100 from by decide) hf
  have f3 : v_iv (n_v vs 4) < v_iv (n_v vs 3) := f3
  obtain ⟨f4, hf⟩ := fc_un (show (8 : Nat) < 100 from by decide) hf
  have f4 : 0 ≤ v_iv (n_v vs 4) := f4
  obtain ⟨f5, hf⟩ := fc_un (show (20 : Nat) < 100 from by decide) hf
  have f5 : 1 * v_iv (n_v vs 7) + (2 * w_fi ws (n_v vs 0) 27 + ((-1) * v_iv (n_v vs 4) + 0)) ≤ 40000 := f5
  obtain ⟨f6, hf⟩ := fc_un (show (20 : Nat) < 100 from by decide) hf
  have f6 : (-1) * v_iv (n_v vs 7) + ((-2) * w_fi ws (n_v vs 0) 27 + (1 * v_iv (n_v vs 4) + 0)) ≤ (-40000) := f6
  have cr_0_24 : ta (w_ar ws (n_v vs 0) 24) = some 164 := tv_rg (th_fd hD hth r0 (g := GG_150) rfl (k := 24) (t := (2, 0, 0, [164])) rfl rfl)
  have ad_8 : v_ad (n_v vs 8) = w_ar ws (n_v vs 0) 24 := congrArg v_ad f2
  rw [ad_8] at f1
  have kz_0_27 : 0 ≤ w_fi ws (n_v vs 0) 27 ∧ w_fi ws (n_v vs 0) 27 ≤ 20000 := tv_rng (th_fd hD hth r0 (g := GG_150) rfl (k := 27) (t := (0, 0, 20000, [])) rfl rfl)
  obtain ⟨x, ex, hx⟩ := iv_ex (ta := ta) (lo := (-1)) (hi := 40100) (z := 0 + (1 * v_iv (n_v vs 7) + 0)) (by omega) (by omega) (by omega) (by omega)
  have ex2 : v_iv (Value.int x) = 0 + (1 * v_iv (n_v vs 7) + 0) := ex
  have ex3 : (-1) ≤ v_iv (Value.int x) ∧ v_iv (Value.int x) ≤ 40100 := tv_rng hx
  have e_0 : n_v (vs ++ [Value.int x]) 0 = n_v vs 0 := n_v_old (by rw [hl]; decide)
  have e_3 : n_v (vs ++ [Value.int x]) 3 = n_v vs 3 := n_v_old (by rw [hl]; decide)
  have e_4 : n_v (vs ++ [Value.int x]) 4 = n_v vs 4 := n_v_old (by rw [hl]; decide)
  have e_11 : n_v (vs ++ [Value.int x]) 11 = n_v vs 11 := n_v_old (by rw [hl]; decide)
  have e_12 : n_v (vs ++ [Value.int x]) 12 = n_v vs 12 := n_v_old (by rw [hl]; decide)
  have e_13 : n_v (vs ++ [Value.int x]) 13 = Value.int x := n_v_new hl
  have nf0 : fc_1 (20, [0, 4, 12, 13], [30, -40000, -2, 1, 27, 1, 0, 0, 2, 0, 0, -1, 0, 0]) ws (vs ++ [Value.int x]) := by
    refine ⟨fun n hn => ?_, ?_⟩
    · have hn : n ∈ [0, 4, 12, 13] := hn
      rw [List.length_append, hl]
      simp only [List.mem_cons, List.not_mem_nil, or_false] at hn
      show n < 13 + 1; omega
    · show (-2) * w_fi ws (n_v (vs ++ [Value.int x]) 0) 27 + (1 * v_iv (n_v (vs ++ [Value.int x]) 4) + (2 * v_iv (n_v (vs ++ [Value.int x]) 12) + ((-1) * v_iv (n_v (vs ++ [Value.int x]) 13) + 0))) ≤ (-40000)
      rw [e_0]
      rw [e_4]
      rw [e_12]
      rw [e_13]
      omega
  have nf1 : fc_1 (23, [11, 3, 12], [24, 1, -1, 25]) ws (vs ++ [Value.int x]) := by
    refine ⟨fun n hn => ?_, ?_⟩
    · have hn : n ∈ [11, 3, 12] := hn
      rw [List.length_append, hl]
      simp only [List.mem_cons, List.not_mem_nil, or_false] at hn
      show n < 13 + 1; omega
    · show 1 * v_iv (n_v (vs ++ [Value.int x]) 11) + ((-1) * v_iv (n_v (vs ++ [Value.int x]) 3) + (25 * v_iv (n_v (vs ++ [Value.int x]) 12) + 0)) ≤ 24
      rw [e_3]
      rw [e_11]
      rw [e_12]
      omega
  obtain ⟨x0, e0, _, _⟩ := tv_int t7 rfl
  have e1 : v_iv (n_v vs 7) = x0.toInt := by rw [e0]; rfl
  have ho : sy_ofs (vs ++ [Value.int x]) (13, 7, 0, 0) := by
    refine ⟨x, x0, by rw [List.getElem?_append_right (by rw [hl]; decide), hl]; rfl, ?_, ?_, ?_⟩
    · rw [List.getElem?_append_left (by rw [hl]; decide)]; exact n_v_some (by rw [hl]; decide) e0
    · show x0.toInt + 0 ≤ x.toInt; omega
    · show x.toInt ≤ x0.toInt + 0; omega
  exact ⟨(fun _ h => (by cases h)), [Value.int x], ag_one hx, List.forall_mem_cons.mpr ⟨⟨show (20 : Nat) < 100 from by decide, nf0⟩, List.forall_mem_cons.mpr ⟨⟨show (23 : Nat) < 100 from by decide, nf1⟩, (fun _ h => (by cases h))⟩⟩, List.forall_mem_cons.mpr ⟨ho, (fun _ h => (by cases h))⟩⟩
def o_Mo_same_2 : or_T := (130, 13, [(0, (2, 0, 0, [150])), (3, (0, 1, 24, [])), (4, (0, 0, 23, [])), (5, (0, 1, 24, [])), (6, (0, 0, 0, [])), (8, (0, -1, 40100, [])), (9, (2, 0, 0, [164])), (11, (0, -1, -1, [])), (12, (0, -1, 22, []))], [(1, [12, 4, 11], []), (8, [6], [0]), (20, [0, 4, 6, 8], [30, -40000, -2, 1, 27, 1, 0, 0, 2, 0, 0, -1, 0, 0]), (23, [5, 3, 6], [24, 1, -1, 25]), (100, [9, 4, 10], []), (8, [6], [0]), (9, [9, 0], [24]), (7, [5, 3], [3]), (20, [0, 4, 6, 8], [30, -40000, -2, 1, 27, 1, 0, 0, 2, 0, 0, -1, 0, 0]), (23, [5, 3, 6], [24, 1, -1, 25])], [], [(0, -1, 40100, [])], [(20, [13, 0, 12], [30, 40000, 1, 0, 0, 2, 1, 27, -1, 0, 0]), (20, [13, 0, 12], [30, -40000, -1, 0, 0, -2, 1, 27, 1, 0, 0])], [(13, 8, -1000000000000, -1)], [(12, 4, -1, -1), (12, 3, -4294967296, -2), (5, 3, 0, 4294967296), (4, 3, -4294967296, -1), (5, 3, -4294967296, 23), (5, 4, -4294967296, 24), (5, 6, -4294967296, 24), (6, 3, -4294967296, 0), (6, 4, -4294967296, 1), (6, 5, -4294967296, 1)])
theorem oo_Mo_same_2 {kA : Nat → ClassId} : or_ok kA GG o_Mo_same_2 := by
  intro A ta ws vs hD hth hl hk hds hf
  have hl : vs.length = 13 := hl
  have hk : ∀ q ∈ ([(0, (2, 0, 0, [150])), (3, (0, 1, 24, [])), (4, (0, 0, 23, [])), (5, (0, 1, 24, [])), (6, (0, 0, 0, [])), (8, (0, -1, 40100, [])), (9, (2, 0, 0, [164])), (11, (0, -1, -1, [])), (12, (0, -1, 22, []))] : List (Nat × tv_T)), tv_ok ta q.2 (n_v vs q.1) := hk
  obtain ⟨t0, hk⟩ := List.forall_mem_cons.mp hk
  have t0 : tv_ok ta (2, 0, 0, [150]) (n_v vs 0) := t0
  have r0 : ta (v_ad (n_v vs 0)) = some 150 := tv_rg t0
  obtain ⟨t3, hk⟩ := List.forall_mem_cons.mp hk
  have t3 : tv_ok ta (0, 1, 24, []) (n_v vs 3) := t3
  have k3 : 1 ≤ v_iv (n_v vs 3) ∧ v_iv (n_v vs 3) ≤ 24 := tv_rng t3
  obtain ⟨t4, hk⟩ := List.forall_mem_cons.mp hk
  have t4 : tv_ok ta (0, 0, 23, []) (n_v vs 4) := t4
  have k4 : 0 ≤ v_iv (n_v vs 4) ∧ v_iv (n_v vs 4) ≤ 23 := tv_rng t4
  obtain ⟨t5, hk⟩ := List.forall_mem_cons.mp hk
  have t5 : tv_ok ta (0, 1, 24, []) (n_v vs 5) := t5
  have k5 : 1 ≤ v_iv (n_v vs 5) ∧ v_iv (n_v vs 5) ≤ 24 := tv_rng t5
  obtain ⟨t6, hk⟩ := List.forall_mem_cons.mp hk
  have t6 : tv_ok ta (0, 0, 0, []) (n_v vs 6) := t6
  have k6 : 0 ≤ v_iv (n_v vs 6) ∧ v_iv (n_v vs 6) ≤ 0 := tv_rng t6
  obtain ⟨t8, hk⟩ := List.forall_mem_cons.mp hk
  have t8 : tv_ok ta (0, -1, 40100, []) (n_v vs 8) := t8
  have k8 : (-1) ≤ v_iv (n_v vs 8) ∧ v_iv (n_v vs 8) ≤ 40100 := tv_rng t8
  obtain ⟨t9, hk⟩ := List.forall_mem_cons.mp hk
  have t9 : tv_ok ta (2, 0, 0, [164]) (n_v vs 9) := t9
  have r9 : ta (v_ad (n_v vs 9)) = some 164 := tv_rg t9
  obtain ⟨t11, hk⟩ := List.forall_mem_cons.mp hk
  have t11 : tv_ok ta (0, -1, -1, []) (n_v vs 11) := t11
  have k11 : (-1) ≤ v_iv (n_v vs 11) ∧ v_iv (n_v vs 11) ≤ (-1) := tv_rng t11
  obtain ⟨t12, hk⟩ := List.forall_mem_cons.mp hk
  have t12 : tv_ok ta (0, -1, 22, []) (n_v vs 12) := t12
  have k12 : (-1) ≤ v_iv (n_v vs 12) ∧ v_iv (n_v vs 12) ≤ 22 := tv_rng t12
  have hds : ∀ q ∈ ([(12, 4, -1, -1), (12, 3, -4294967296, -2), (5, 3, 0, 4294967296), (4, 3, -4294967296, -1), (5, 3, -4294967296, 23), (5, 4, -4294967296, 24), (5, 6, -4294967296, 24), (6, 3, -4294967296, 0), (6, 4, -4294967296, 1), (6, 5, -4294967296, 1)] : List of_T), n_iv vs q.2.1 + q.2.2.1 ≤ n_iv vs q.1 ∧ n_iv vs q.1 ≤ n_iv vs q.2.1 + q.2.2.2 := hds
  obtain ⟨d0, hds⟩ := List.forall_mem_cons.mp hds
  have d0 : v_iv (n_v vs 4) + (-1) ≤ v_iv (n_v vs 12) ∧ v_iv (n_v vs 12) ≤ v_iv (n_v vs 4) + (-1) := d0
  obtain ⟨d1, hds⟩ := List.forall_mem_cons.mp hds
  have d1 : v_iv (n_v vs 3) + (-4294967296) ≤ v_iv (n_v vs 12) ∧ v_iv (n_v vs 12) ≤ v_iv (n_v vs 3) + (-2) := d1
  obtain ⟨d2, hds⟩ := List.forall_mem_cons.mp hds
  have d2 : v_iv (n_v vs 3) + 0 ≤ v_iv (n_v vs 5) ∧ v_iv (n_v vs 5) ≤ v_iv (n_v vs 3) + 4294967296 := d2
  obtain ⟨d3, hds⟩ := List.forall_mem_cons.mp hds
  have d3 : v_iv (n_v vs 3) + (-4294967296) ≤ v_iv (n_v vs 4) ∧ v_iv (n_v vs 4) ≤ v_iv (n_v vs 3) + (-1) := d3
  obtain ⟨d4, hds⟩ := List.forall_mem_cons.mp hds
  have d4 : v_iv (n_v vs 3) + (-4294967296) ≤ v_iv (n_v vs 5) ∧ v_iv (n_v vs 5) ≤ v_iv (n_v vs 3) + 23 := d4
  obtain ⟨d5, hds⟩ := List.forall_mem_cons.mp hds
  have d5 : v_iv (n_v vs 4) + (-4294967296) ≤ v_iv (n_v vs 5) ∧ v_iv (n_v vs 5) ≤ v_iv (n_v vs 4) + 24 := d5
  obtain ⟨d6, hds⟩ := List.forall_mem_cons.mp hds
  have d6 : v_iv (n_v vs 6) + (-4294967296) ≤ v_iv (n_v vs 5) ∧ v_iv (n_v vs 5) ≤ v_iv (n_v vs 6) + 24 := d6
  obtain ⟨d7, hds⟩ := List.forall_mem_cons.mp hds
  have d7 : v_iv (n_v vs 3) + (-4294967296) ≤ v_iv (n_v vs 6) ∧ v_iv (n_v vs 6) ≤ v_iv (n_v vs 3) + 0 := d7
  obtain ⟨d8, hds⟩ := List.forall_mem_cons.mp hds
  have d8 : v_iv (n_v vs 4) + (-4294967296) ≤ v_iv (n_v vs 6) ∧ v_iv (n_v vs 6) ≤ v_iv (n_v vs 4) + 1 := d8
  obtain ⟨d9, hds⟩ := List.forall_mem_cons.mp hds
  have d9 : v_iv (n_v vs 5) + (-4294967296) ≤ v_iv (n_v vs 6) ∧ v_iv (n_v vs 6) ≤ v_iv (n_v vs 5) + 1 := d9
  have hf : fc_ok [(1, [12, 4, 11], []), (8, [6], [0]), (20, [0, 4, 6, 8], [30, -40000, -2, 1, 27, 1, 0, 0, 2, 0, 0, -1, 0, 0]), (23, [5, 3, 6], [24, 1, -1, 25]), (100, [9, 4, 10], []), (8, [6], [0]), (9, [9, 0], [24]), (7, [5, 3], [3]), (20, [0, 4, 6, 8], [30, -40000, -2, 1, 27, 1, 0, 0, 2, 0, 0, -1, 0, 0]), (23, [5, 3, 6], [24, 1, -1, 25])] ta ws vs := hf
  obtain ⟨f0, hf⟩ := fc_un (show (1 : Nat) < 100 from by decide) hf
  have f0 : v_iv (n_v vs 12) = v_iv (n_v vs 4) + v_iv (n_v vs 11) := f0
  obtain ⟨f1, hf⟩ := fc_un (show (8 : Nat) < 100 from by decide) hf
  have f1 : v_iv (n_v vs 6) = 0 := f1
  obtain ⟨f2, hf⟩ := fc_un (show (20 : Nat) < 100 from by decide) hf
  have f2 : (-2) * w_fi ws (n_v vs 0) 27 + (1 * v_iv (n_v vs 4) + (2 * v_iv (n_v vs 6) + ((-1) * v_iv (n_v vs 8) + 0))) ≤ (-40000) := f2
  obtain ⟨f3, hf⟩ := fc_un (show (23 : Nat) < 100 from by decide) hf
  have f3 : 1 * v_iv (n_v vs 5) + ((-1) * v_iv (n_v vs 3) + (25 * v_iv (n_v vs 6) + 0)) ≤ 24 := f3
  obtain ⟨ta1, w1, le1, ⟨_, s1⟩, hf⟩ := fc_us (show ¬ (100 : Nat) < 100 from by decide) hf
  have s1 : (∀ b j, w_el ws b j = if b = v_ad (n_v vs 9) ∧ j = (v_iv (n_v vs 4)).toNat then v_iv (n_v vs 10) else w_el w1 b j) ∧ ∀ b k, w_fd ws b k = w_fd w1 b k := s1
  obtain ⟨f5, hf⟩ := fc_un (show (8 : Nat) < 100 from by decide) hf
  have f5 : v_iv (n_v vs 6) = 0 := f5
  obtain ⟨f6, hf⟩ := fc_un (show (9 : Nat) < 100 from by decide) hf
  have f6 : n_v vs 9 = w_fd w1 (v_ad (n_v vs 0)) 24 := f6
  obtain ⟨f7, hf⟩ := fc_un (show (7 : Nat) < 100 from by decide) hf
  have f7 : v_iv (n_v vs 3) ≤ v_iv (n_v vs 5) := f7
  obtain ⟨f8, hf⟩ := fc_un (show (20 : Nat) < 100 from by decide) hf
  have f8 : (-2) * w_fi w1 (n_v vs 0) 27 + (1 * v_iv (n_v vs 4) + (2 * v_iv (n_v vs 6) + ((-1) * v_iv (n_v vs 8) + 0))) ≤ (-40000) := f8
  obtain ⟨f9, hf⟩ := fc_un (show (23 : Nat) < 100 from by decide) hf
  have f9 : 1 * v_iv (n_v vs 5) + ((-1) * v_iv (n_v vs 3) + (25 * v_iv (n_v vs 6) + 0)) ≤ 24 := f9
  have ar_0_24_1 : w_ar w1 (n_v vs 0) 24 = w_ar ws (n_v vs 0) 24 := by show v_ad (w_fd w1 _ _) = v_ad (w_fd ws _ _); rw [s1.2]
  have cr_0_24 : ta (w_ar ws (n_v vs 0) 24) = some 164 := tv_rg (th_fd hD hth r0 (g := GG_150) rfl (k := 24) (t := (2, 0, 0, [164])) rfl rfl)
  have ad_9 : v_ad (n_v vs 9) = w_ar ws (n_v vs 0) 24 := (congrArg v_ad f6).trans ar_0_24_1
  have fe_0_27_1 : w_fi ws (n_v vs 0) 27 = w_fi w1 (n_v vs 0) 27 := congrArg v_iv (s1.2 _ _)
  have kz_0_27 : 0 ≤ w_fi ws (n_v vs 0) 27 ∧ w_fi ws (n_v vs 0) 27 ≤ 20000 := tv_rng (th_fd hD hth r0 (g := GG_150) rfl (k := 27) (t := (0, 0, 20000, [])) rfl rfl)
  have kb_0_27 : 0 ≤ w_fi ws (n_v vs 0) 27 ∧ w_fi ws (n_v vs 0) 27 ≤ 20000 := tv_rng (th_fd hD hth r0 (g := GG_150) rfl (k := 27) (t := (0, 0, 20000, [])) rfl rfl)
  obtain ⟨x, ex, hx⟩ := iv_ex (ta := ta) (lo := (-1)) (hi := 40100) (z := 40000 + ((-2) * w_fi ws (n_v vs 0) 27 + (1 * v_iv (n_v vs 12) + 0))) (by omega) (by omega) (by omega) (by omega)
  have ex2 : v_iv (Value.int x) = 40000 + ((-2) * w_fi ws (n_v vs 0) 27 + (1 * v_iv (n_v vs 12) + 0)) := ex
  have ex3 : (-1) ≤ v_iv (Value.int x) ∧ v_iv (Value.int x) ≤ 40100 := tv_rng hx
  have e_0 : n_v (vs ++ [Value.int x]) 0 = n_v vs 0 := n_v_old (by rw [hl]; decide)
  have e_12 : n_v (vs ++ [Value.int x]) 12 = n_v vs 12 := n_v_old (by rw [hl]; decide)
  have e_13 : n_v (vs ++ [Value.int x]) 13 = Value.int x := n_v_new hl
  have nf0 : fc_1 (20, [13, 0, 12], [30, 40000, 1, 0, 0, 2, 1, 27, -1, 0, 0]) ws (vs ++ [Value.int x]) := by
    refine ⟨fun n hn => ?_, ?_⟩
    · have hn : n ∈ [13, 0, 12] := hn
      rw [List.length_append, hl]
      simp only [List.mem_cons, List.not_mem_nil, or_false] at hn
      show n < 13 + 1; omega
    · show 1 * v_iv (n_v (vs ++ [Value.int x]) 13) + (2 * w_fi ws (n_v (vs ++ [Value.int x]) 0) 27 + ((-1) * v_iv (n_v (vs ++ [Value.int x]) 12) + 0)) ≤ 40000
      rw [e_0]
      rw [e_12]
      rw [e_13]
      omega
  have nf1 : fc_1 (20, [13, 0, 12], [30, -40000, -1, 0, 0, -2, 1, 27, 1, 0, 0]) ws (vs ++ [Value.int x]) := by
    refine ⟨fun n hn => ?_, ?_⟩
    · have hn : n ∈ [13, 0, 12] := hn
      rw [List.length_append, hl]
      simp only [List.mem_cons, List.not_mem_nil, or_false] at hn
      show n < 13 + 1; omega
    · show (-1) * v_iv (n_v (vs ++ [Value.int x]) 13) + ((-2) * w_fi ws (n_v (vs ++ [Value.int x]) 0) 27 + (1 * v_iv (n_v (vs ++ [Value.int x]) 12) + 0)) ≤ (-40000)
      rw [e_0]
      rw [e_12]
      rw [e_13]
      omega
  obtain ⟨x0, e0, _, _⟩ := tv_int t8 rfl
  have e1 : v_iv (n_v vs 8) = x0.toInt := by rw [e0]; rfl
  have ho : sy_ofs (vs ++ [Value.int x]) (13, 8, -1000000000000, -1) := by
    refine ⟨x, x0, by rw [List.getElem?_append_right (by rw [hl]; decide), hl]; rfl, ?_, ?_, ?_⟩
    · rw [List.getElem?_append_left (by rw [hl]; decide)]; exact n_v_some (by rw [hl]; decide) e0
    · show x0.toInt + (-1000000000000) ≤ x.toInt; omega
    · show x.toInt ≤ x0.toInt + (-1); omega
  exact ⟨(fun _ h => (by cases h)), [Value.int x], ag_one hx, List.forall_mem_cons.mpr ⟨⟨show (20 : Nat) < 100 from by decide, nf0⟩, List.forall_mem_cons.mpr ⟨⟨show (20 : Nat) < 100 from by decide, nf1⟩, (fun _ h => (by cases h))⟩⟩, List.forall_mem_cons.mpr ⟨ho, (fun _ h => (by cases h))⟩⟩
def o_Mo_same_3 : or_T := (275, 10, [(0, (2, 0, 0, [150])), (3, (0, 1, 24, [])), (4, (0, 0, 23, [])), (5, (0, 1, 24, [])), (6, (0, 1, 1, [])), (8, (0, -1, 40100, []))], [(8, [6], [1]), (7, [5, 3], [3]), (20, [0, 4, 6, 8], [30, -40000, -2, 1, 27, 1, 0, 0, 2, 0, 0, -1, 0, 0]), (23, [5, 3, 6], [24, 1, -1, 25])], [(5, (0, 1, 23, []))], [], [], [], [(5, 3, 0, 4294967296), (4, 3, -4294967296, -1), (5, 3, -4294967296, 23), (5, 4, -4294967296, 24), (5, 6, -4294967296, 24), (6, 3, -4294967296, 0), (6, 4, -4294967296, 1), (6, 5, -4294967296, 1)])
theorem oo_Mo_same_3 {kA : Nat → ClassId} : or_ok kA GG o_Mo_same_3 := by
  intro A ta ws vs hD hth hl hk hds hf
  have hl : vs.length = 10 := hl
  have hk : ∀ q ∈ ([(0, (2, 0, 0, [150])), (3, (0, 1, 24, [])), (4, (0, 0, 23, [])), (5, (0, 1, 24, [])), (6, (0, 1, 1, [])), (8, (0, -1, 40100, []))] : List (Nat × tv_T)), tv_ok ta q.2 (n_v vs q.1) := hk
  obtain ⟨t0, hk⟩ := List.forall_mem_cons.mp hk
  have t0 : tv_ok ta (2, 0, 0, [150]) (n_v vs 0) := t0
  have r0 : ta (v_ad (n_v vs 0)) = some 150 := tv_rg t0
  obtain ⟨t3, hk⟩ := List.forall_mem_cons.mp hk
  have t3 : tv_ok ta (0, 1, 24, []) (n_v vs 3) := t3
  have k3 : 1 ≤ v_iv (n_v vs 3) ∧ v_iv (n_v vs 3) ≤ 24 := tv_rng t3
  obtain ⟨t4, hk⟩ := List.forall_mem_cons.mp hk
  have t4 : tv_ok ta (0, 0, 23, []) (n_v vs 4) := t4
  have k4 : 0 ≤ v_iv (n_v vs 4) ∧ v_iv (n_v vs 4) ≤ 23 := tv_rng t4
  obtain ⟨t5, hk⟩ := List.forall_mem_cons.mp hk
  have t5 : tv_ok ta (0, 1, 24, []) (n_v vs 5) := t5
  have k5 : 1 ≤ v_iv (n_v vs 5) ∧ v_iv (n_v vs 5) ≤ 24 := tv_rng t5
  obtain ⟨t6, hk⟩ := List.forall_mem_cons.mp hk
  have t6 : tv_ok ta (0, 1, 1, []) (n_v vs 6) := t6
  have k6 : 1 ≤ v_iv (n_v vs 6) ∧ v_iv (n_v vs 6) ≤ 1 := tv_rng t6
  obtain ⟨t8, hk⟩ := List.forall_mem_cons.mp hk
  have t8 : tv_ok ta (0, -1, 40100, []) (n_v vs 8) := t8
  have k8 : (-1) ≤ v_iv (n_v vs 8) ∧ v_iv (n_v vs 8) ≤ 40100 := tv_rng t8
  have hds : ∀ q ∈ ([(5, 3, 0, 4294967296), (4, 3, -4294967296, -1), (5, 3, -4294967296, 23), (5, 4, -4294967296, 24), (5, 6, -4294967296, 24), (6, 3, -4294967296, 0), (6, 4, -4294967296, 1), (6, 5, -4294967296, 1)] : List of_T), n_iv vs q.2.1 + q.2.2.1 ≤ n_iv vs q.1 ∧ n_iv vs q.1 ≤ n_iv vs q.2.1 + q.2.2.2 := hds
  obtain ⟨d0, hds⟩ := List.forall_mem_cons.mp hds
  have d0 : v_iv (n_v vs 3) + 0 ≤ v_iv (n_v vs 5) ∧ v_iv (n_v vs 5) ≤ v_iv (n_v vs 3) + 4294967296 := d0
  obtain ⟨d1, hds⟩ := List.forall_mem_cons.mp hds
  have d1 : v_iv (n_v vs 3) + (-4294967296) ≤ v_iv (n_v vs 4) ∧ v_iv (n_v vs 4) ≤ v_iv (n_v vs 3) + (-1) := d1
  obtain ⟨d2, hds⟩ := List.forall_mem_cons.mp hds
  have d2 : v_iv (n_v vs 3) + (-4294967296) ≤ v_iv (n_v vs 5) ∧ v_iv (n_v vs 5) ≤ v_iv (n_v vs 3) + 23 := d2
  obtain ⟨d3, hds⟩ := List.forall_mem_cons.mp hds
  have d3 : v_iv (n_v vs 4) + (-4294967296) ≤ v_iv (n_v vs 5) ∧ v_iv (n_v vs 5) ≤ v_iv (n_v vs 4) + 24 := d3
  obtain ⟨d4, hds⟩ := List.forall_mem_cons.mp hds
  have d4 : v_iv (n_v vs 6) + (-4294967296) ≤ v_iv (n_v vs 5) ∧ v_iv (n_v vs 5) ≤ v_iv (n_v vs 6) + 24 := d4
  obtain ⟨d5, hds⟩ := List.forall_mem_cons.mp hds
  have d5 : v_iv (n_v vs 3) + (-4294967296) ≤ v_iv (n_v vs 6) ∧ v_iv (n_v vs 6) ≤ v_iv (n_v vs 3) + 0 := d5
  obtain ⟨d6, hds⟩ := List.forall_mem_cons.mp hds
  have d6 : v_iv (n_v vs 4) + (-4294967296) ≤ v_iv (n_v vs 6) ∧ v_iv (n_v vs 6) ≤ v_iv (n_v vs 4) + 1 := d6
  obtain ⟨d7, hds⟩ := List.forall_mem_cons.mp hds
  have d7 : v_iv (n_v vs 5) + (-4294967296) ≤ v_iv (n_v vs 6) ∧ v_iv (n_v vs 6) ≤ v_iv (n_v vs 5) + 1 := d7
  have hf : fc_ok [(8, [6], [1]), (7, [5, 3], [3]), (20, [0, 4, 6, 8], [30, -40000, -2, 1, 27, 1, 0, 0, 2, 0, 0, -1, 0, 0]), (23, [5, 3, 6], [24, 1, -1, 25])] ta ws vs := hf
  obtain ⟨f0, hf⟩ := fc_un (show (8 : Nat) < 100 from by decide) hf
  have f0 : v_iv (n_v vs 6) ≠ 0 := f0
  obtain ⟨f1, hf⟩ := fc_un (show (7 : Nat) < 100 from by decide) hf
  have f1 : v_iv (n_v vs 3) ≤ v_iv (n_v vs 5) := f1
  obtain ⟨f2, hf⟩ := fc_un (show (20 : Nat) < 100 from by decide) hf
  have f2 : (-2) * w_fi ws (n_v vs 0) 27 + (1 * v_iv (n_v vs 4) + (2 * v_iv (n_v vs 6) + ((-1) * v_iv (n_v vs 8) + 0))) ≤ (-40000) := f2
  obtain ⟨f3, hf⟩ := fc_un (show (23 : Nat) < 100 from by decide) hf
  have f3 : 1 * v_iv (n_v vs 5) + ((-1) * v_iv (n_v vs 3) + (25 * v_iv (n_v vs 6) + 0)) ≤ 24 := f3
  have kz_0_27 : 0 ≤ w_fi ws (n_v vs 0) 27 ∧ w_fi ws (n_v vs 0) 27 ≤ 20000 := tv_rng (th_fd hD hth r0 (g := GG_150) rfl (k := 27) (t := (0, 0, 20000, [])) rfl rfl)
  have rf5 : tv_ok ta (0, 1, 23, []) (n_v vs 5) := tv_in t5 (by omega) (by omega)
  refine ⟨List.forall_mem_cons.mpr ⟨rf5, (fun _ h => (by cases h))⟩, [], trivial, ?_, (fun _ h => (by cases h))⟩
  rw [List.append_nil]
  exact (fun _ h => (by cases h))
def o_Mo_same_4 : or_T := (130, 12, [(0, (2, 0, 0, [150])), (3, (0, 1, 24, [])), (4, (0, 0, 23, [])), (5, (0, 1, 23, [])), (6, (0, 1, 1, [])), (8, (0, -1, 40100, [])), (9, (2, 0, 0, [164])), (10, (0, 1, 1, [])), (11, (0, 1, 24, []))], [(1, [11, 4, 10], []), (8, [6], [1]), (20, [0, 4, 6, 8], [30, -40000, -2, 1, 27, 1, 0, 0, 2, 0, 0, -1, 0, 0]), (23, [5, 3, 6], [24, 1, -1, 25]), (100, [9, 4, 5], []), (8, [6], [1]), (9, [9, 0], [24]), (7, [5, 3], [3]), (20, [0, 4, 6, 8], [30, -40000, -2, 1, 27, 1, 0, 0, 2, 0, 0, -1, 0, 0]), (23, [5, 3, 6], [24, 1, -1, 25])], [], [(0, -1, 40100, [])], [(20, [12, 0, 11], [30, 40000, 1, 0, 0, 2, 1, 27, -1, 0, 0]), (20, [12, 0, 11], [30, -40000, -1, 0, 0, -2, 1, 27, 1, 0, 0])], [(12, 8, -1000000000000, -1)], [(11, 4, 1, 1), (11, 3, -4294967296, 0), (5, 3, 0, 4294967296), (4, 3, -4294967296, -1), (5, 3, -4294967296, 23), (5, 4, -4294967296, 24), (5, 6, -4294967296, 24), (6, 3, -4294967296, 0), (6, 4, -4294967296, 1), (6, 5, -4294967296, 1)])
theorem oo_Mo_same_4 {kA : Nat → ClassId} : or_ok kA GG o_Mo_same_4 := by
  intro A ta ws vs hD hth hl hk hds hf
  have hl : vs.length = 12 := hl
  have hk : ∀ q ∈ ([(0, (2, 0, 0, [150])), (3, (0, 1, 24, [])), (4, (0, 0, 23, [])), (5, (0, 1, 23, [])), (6, (0, 1, 1, [])), (8, (0, -1, 40100, [])), (9, (2, 0, 0, [164])), (10, (0, 1, 1, [])), (11, (0, 1, 24, []))] : List (Nat × tv_T)), tv_ok ta q.2 (n_v vs q.1) := hk
  obtain ⟨t0, hk⟩ := List.forall_mem_cons.mp hk
  have t0 : tv_ok ta (2, 0, 0, [150]) (n_v vs 0) := t0
  have r0 : ta (v_ad (n_v vs 0)) = some 150 := tv_rg t0
  obtain ⟨t3, hk⟩ := List.forall_mem_cons.mp hk
  have t3 : tv_ok ta (0, 1, 24, []) (n_v vs 3) := t3
  have k3 : 1 ≤ v_iv (n_v vs 3) ∧ v_iv (n_v vs 3) ≤ 24 := tv_rng t3
  obtain ⟨t4, hk⟩ := List.forall_mem_cons.mp hk
  have t4 : tv_ok ta (0, 0, 23, []) (n_v vs 4) := t4
  have k4 : 0 ≤ v_iv (n_v vs 4) ∧ v_iv (n_v vs 4) ≤ 23 := tv_rng t4
  obtain ⟨t5, hk⟩ := List.forall_mem_cons.mp hk
  have t5 : tv_ok ta (0, 1, 23, []) (n_v vs 5) := t5
  have k5 : 1 ≤ v_iv (n_v vs 5) ∧ v_iv (n_v vs 5) ≤ 23 := tv_rng t5
  obtain ⟨t6, hk⟩ := List.forall_mem_cons.mp hk
  have t6 : tv_ok ta (0, 1, 1, []) (n_v vs 6) := t6
  have k6 : 1 ≤ v_iv (n_v vs 6) ∧ v_iv (n_v vs 6) ≤ 1 := tv_rng t6
  obtain ⟨t8, hk⟩ := List.forall_mem_cons.mp hk
  have t8 : tv_ok ta (0, -1, 40100, []) (n_v vs 8) := t8
  have k8 : (-1) ≤ v_iv (n_v vs 8) ∧ v_iv (n_v vs 8) ≤ 40100 := tv_rng t8
  obtain ⟨t9, hk⟩ := List.forall_mem_cons.mp hk
  have t9 : tv_ok ta (2, 0, 0, [164]) (n_v vs 9) := t9
  have r9 : ta (v_ad (n_v vs 9)) = some 164 := tv_rg t9
  obtain ⟨t10, hk⟩ := List.forall_mem_cons.mp hk
  have t10 : tv_ok ta (0, 1, 1, []) (n_v vs 10) := t10
  have k10 : 1 ≤ v_iv (n_v vs 10) ∧ v_iv (n_v vs 10) ≤ 1 := tv_rng t10
  obtain ⟨t11, hk⟩ := List.forall_mem_cons.mp hk
  have t11 : tv_ok ta (0, 1, 24, []) (n_v vs 11) := t11
  have k11 : 1 ≤ v_iv (n_v vs 11) ∧ v_iv (n_v vs 11) ≤ 24 := tv_rng t11
  have hds : ∀ q ∈ ([(11, 4, 1, 1), (11, 3, -4294967296, 0), (5, 3, 0, 4294967296), (4, 3, -4294967296, -1), (5, 3, -4294967296, 23), (5, 4, -4294967296, 24), (5, 6, -4294967296, 24), (6, 3, -4294967296, 0), (6, 4, -4294967296, 1), (6, 5, -4294967296, 1)] : List of_T), n_iv vs q.2.1 + q.2.2.1 ≤ n_iv vs q.1 ∧ n_iv vs q.1 ≤ n_iv vs q.2.1 + q.2.2.2 := hds
  obtain ⟨d0, hds⟩ := List.forall_mem_cons.mp hds
  have d0 : v_iv (n_v vs 4) + 1 ≤ v_iv (n_v vs 11) ∧ v_iv (n_v vs 11) ≤ v_iv (n_v vs 4) + 1 := d0
  obtain ⟨d1, hds⟩ := List.forall_mem_cons.mp hds
  have d1 : v_iv (n_v vs 3) + (-4294967296) ≤ v_iv (n_v vs 11) ∧ v_iv (n_v vs 11) ≤ v_iv (n_v vs 3) + 0 := d1
  obtain ⟨d2, hds⟩ := List.forall_mem_cons.mp hds
  have d2 : v_iv (n_v vs 3) + 0 ≤ v_iv (n_v vs 5) ∧ v_iv (n_v vs 5) ≤ v_iv (n_v vs 3) + 4294967296 := d2
  obtain ⟨d3, hds⟩ := List.forall_mem_cons.mp hds
  have d3 : v_iv (n_v vs 3) + (-4294967296) ≤ v_iv (n_v vs 4) ∧ v_iv (n_v vs 4) ≤ v_iv (n_v vs 3) + (-1) := d3
  obtain ⟨d4, hds⟩ := List.forall_mem_cons.mp hds
  have d4 : v_iv (n_v vs 3) + (-4294967296) ≤ v_iv (n_v vs 5) ∧ v_iv (n_v vs 5) ≤ v_iv (n_v vs 3) + 23 := d4
  obtain ⟨d5, hds⟩ := List.forall_mem_cons.mp hds
  have d5 : v_iv (n_v vs 4) + (-4294967296) ≤ v_iv (n_v vs 5) ∧ v_iv (n_v vs 5) ≤ v_iv (n_v vs 4) + 24 := d5
  obtain ⟨d6, hds⟩ := List.forall_mem_cons.mp hds
  have d6 : v_iv (n_v vs 6) + (-4294967296) ≤ v_iv (n_v vs 5) ∧ v_iv (n_v vs 5) ≤ v_iv (n_v vs 6) + 24 := d6
  obtain ⟨d7, hds⟩ := List.forall_mem_cons.mp hds
  have d7 : v_iv (n_v vs 3) + (-4294967296) ≤ v_iv (n_v vs 6) ∧ v_iv (n_v vs 6) ≤ v_iv (n_v vs 3) + 0 := d7
  obtain ⟨d8, hds⟩ := List.forall_mem_cons.mp hds
  have d8 : v_iv (n_v vs 4) + (-4294967296) ≤ v_iv (n_v vs 6) ∧ v_iv (n_v vs 6) ≤ v_iv (n_v vs 4) + 1 := d8
  obtain ⟨d9, hds⟩ := List.forall_mem_cons.mp hds
  have d9 : v_iv (n_v vs 5) + (-4294967296) ≤ v_iv (n_v vs 6) ∧ v_iv (n_v vs 6) ≤ v_iv (n_v vs 5) + 1 := d9
  have hf : fc_ok [(1, [11, 4, 10], []), (8, [6], [1]), (20, [0, 4, 6, 8], [30, -40000, -2, 1, 27, 1, 0, 0, 2, 0, 0, -1, 0, 0]), (23, [5, 3, 6], [24, 1, -1, 25]), (100, [9, 4, 5], []), (8, [6], [1]), (9, [9, 0], [24]), (7, [5, 3], [3]), (20, [0, 4, 6, 8], [30, -40000, -2, 1, 27, 1, 0, 0, 2, 0, 0, -1, 0, 0]), (23, [5, 3, 6], [24, 1, -1, 25])] ta ws vs := hf
  obtain ⟨f0, hf⟩ := fc_un (show (1 : Nat) < 100 from by decide) hf
  have f0 : v_iv (n_v vs 11) = v_iv (n_v vs 4) + v_iv (n_v vs 10) := f0
  obtain ⟨f1, hf⟩ := fc_un (show (8 : Nat) < 100 from by decide) hf
  have f1 : v_iv (n_v vs 6) ≠ 0 := f1
  obtain ⟨f2, hf⟩ := fc_un (show (20 : Nat) < 100 from by decide) hf
  have f2 : (-2) * w_fi ws (n_v vs 0) 27 + (1 * v_iv (n_v vs 4) + (2 * v_iv (n_v vs 6) + ((-1) * v_iv (n_v vs 8) + 0))) ≤ (-40000) := f2
  obtain ⟨f3, hf⟩ := fc_un (show (23 : Nat) < 100 from by decide) hf
  have f3 : 1 * v_iv (n_v vs 5) + ((-1) * v_iv (n_v vs 3) + (25 * v_iv (n_v vs 6) + 0)) ≤ 24 := f3
  obtain ⟨ta1, w1, le1, ⟨_, s1⟩, hf⟩ := fc_us (show ¬ (100 : Nat) < 100 from by decide) hf
  have s1 : (∀ b j, w_el ws b j = if b = v_ad (n_v vs 9) ∧ j = (v_iv (n_v vs 4)).toNat then v_iv (n_v vs 5) else w_el w1 b j) ∧ ∀ b k, w_fd ws b k = w_fd w1 b k := s1
  obtain ⟨f5, hf⟩ := fc_un (show (8 : Nat) < 100 from by decide) hf
  have f5 : v_iv (n_v vs 6) ≠ 0 := f5
  obtain ⟨f6, hf⟩ := fc_un (show (9 : Nat) < 100 from by decide) hf
  have f6 : n_v vs 9 = w_fd w1 (v_ad (n_v vs 0)) 24 := f6
  obtain ⟨f7, hf⟩ := fc_un (show (7 : Nat) < 100 from by decide) hf
  have f7 : v_iv (n_v vs 3) ≤ v_iv (n_v vs 5) := f7
  obtain ⟨f8, hf⟩ := fc_un (show (20 : Nat) < 100 from by decide) hf
  have f8 : (-2) * w_fi w1 (n_v vs 0) 27 + (1 * v_iv (n_v vs 4) + (2 * v_iv (n_v vs 6) + ((-1) * v_iv (n_v vs 8) + 0))) ≤ (-40000) := f8
  obtain ⟨f9, hf⟩ := fc_un (show (23 : Nat) < 100 from by decide) hf
  have f9 : 1 * v_iv (n_v vs 5) + ((-1) * v_iv (n_v vs 3) + (25 * v_iv (n_v vs 6) + 0)) ≤ 24 := f9
  have ar_0_24_1 : w_ar w1 (n_v vs 0) 24 = w_ar ws (n_v vs 0) 24 := by show v_ad (w_fd w1 _ _) = v_ad (w_fd ws _ _); rw [s1.2]
  have cr_0_24 : ta (w_ar ws (n_v vs 0) 24) = some 164 := tv_rg (th_fd hD hth r0 (g := GG_150) rfl (k := 24) (t := (2, 0, 0, [164])) rfl rfl)
  have ad_9 : v_ad (n_v vs 9) = w_ar ws (n_v vs 0) 24 := (congrArg v_ad f6).trans ar_0_24_1
  have fe_0_27_1 : w_fi ws (n_v vs 0) 27 = w_fi w1 (n_v vs 0) 27 := congrArg v_iv (s1.2 _ _)
  have kz_0_27 : 0 ≤ w_fi ws (n_v vs 0) 27 ∧ w_fi ws (n_v vs 0) 27 ≤ 20000 := tv_rng (th_fd hD hth r0 (g := GG_150) rfl (k := 27) (t := (0, 0, 20000, [])) rfl rfl)
  have kb_0_27 : 0 ≤ w_fi ws (n_v vs 0) 27 ∧ w_fi ws (n_v vs 0) 27 ≤ 20000 := tv_rng (th_fd hD hth r0 (g := GG_150) rfl (k := 27) (t := (0, 0, 20000, [])) rfl rfl)
  obtain ⟨x, ex, hx⟩ := iv_ex (ta := ta) (lo := (-1)) (hi := 40100) (z := 40000 + ((-2) * w_fi ws (n_v vs 0) 27 + (1 * v_iv (n_v vs 11) + 0))) (by omega) (by omega) (by omega) (by omega)
  have ex2 : v_iv (Value.int x) = 40000 + ((-2) * w_fi ws (n_v vs 0) 27 + (1 * v_iv (n_v vs 11) + 0)) := ex
  have ex3 : (-1) ≤ v_iv (Value.int x) ∧ v_iv (Value.int x) ≤ 40100 := tv_rng hx
  have e_0 : n_v (vs ++ [Value.int x]) 0 = n_v vs 0 := n_v_old (by rw [hl]; decide)
  have e_11 : n_v (vs ++ [Value.int x]) 11 = n_v vs 11 := n_v_old (by rw [hl]; decide)
  have e_12 : n_v (vs ++ [Value.int x]) 12 = Value.int x := n_v_new hl
  have nf0 : fc_1 (20, [12, 0, 11], [30, 40000, 1, 0, 0, 2, 1, 27, -1, 0, 0]) ws (vs ++ [Value.int x]) := by
    refine ⟨fun n hn => ?_, ?_⟩
    · have hn : n ∈ [12, 0, 11] := hn
      rw [List.length_append, hl]
      simp only [List.mem_cons, List.not_mem_nil, or_false] at hn
      show n < 12 + 1; omega
    · show 1 * v_iv (n_v (vs ++ [Value.int x]) 12) + (2 * w_fi ws (n_v (vs ++ [Value.int x]) 0) 27 + ((-1) * v_iv (n_v (vs ++ [Value.int x]) 11) + 0)) ≤ 40000
      rw [e_0]
      rw [e_11]
      rw [e_12]
      omega
  have nf1 : fc_1 (20, [12, 0, 11], [30, -40000, -1, 0, 0, -2, 1, 27, 1, 0, 0]) ws (vs ++ [Value.int x]) := by
    refine ⟨fun n hn => ?_, ?_⟩
    · have hn : n ∈ [12, 0, 11] := hn
      rw [List.length_append, hl]
      simp only [List.mem_cons, List.not_mem_nil, or_false] at hn
      show n < 12 + 1; omega
    · show (-1) * v_iv (n_v (vs ++ [Value.int x]) 12) + ((-2) * w_fi ws (n_v (vs ++ [Value.int x]) 0) 27 + (1 * v_iv (n_v (vs ++ [Value.int x]) 11) + 0)) ≤ (-40000)
      rw [e_0]
      rw [e_11]
      rw [e_12]
      omega
  obtain ⟨x0, e0, _, _⟩ := tv_int t8 rfl
  have e1 : v_iv (n_v vs 8) = x0.toInt := by rw [e0]; rfl
  have ho : sy_ofs (vs ++ [Value.int x]) (12, 8, -1000000000000, -1) := by
    refine ⟨x, x0, by rw [List.getElem?_append_right (by rw [hl]; decide), hl]; rfl, ?_, ?_, ?_⟩
    · rw [List.getElem?_append_left (by rw [hl]; decide)]; exact n_v_some (by rw [hl]; decide) e0
    · show x0.toInt + (-1000000000000) ≤ x.toInt; omega
    · show x.toInt ≤ x0.toInt + (-1); omega
  exact ⟨(fun _ h => (by cases h)), [Value.int x], ag_one hx, List.forall_mem_cons.mpr ⟨⟨show (20 : Nat) < 100 from by decide, nf0⟩, List.forall_mem_cons.mpr ⟨⟨show (20 : Nat) < 100 from by decide, nf1⟩, (fun _ h => (by cases h))⟩⟩, List.forall_mem_cons.mpr ⟨ho, (fun _ h => (by cases h))⟩⟩
def o_Mo_same_5 : or_T := (130, 12, [(0, (2, 0, 0, [150])), (3, (0, 1, 24, [])), (4, (0, 0, 23, [])), (5, (0, 0, 23, [])), (6, (0, 1, 1, [])), (8, (0, -1, 40100, [])), (9, (2, 0, 0, [164])), (10, (0, 1, 1, [])), (11, (0, 1, 24, []))], [(1, [11, 4, 10], []), (8, [6], [1]), (20, [0, 4, 6, 8], [30, -40000, -2, 1, 27, 1, 0, 0, 2, 0, 0, -1, 0, 0]), (23, [5, 3, 6], [24, 1, -1, 25]), (100, [9, 4, 5], []), (8, [6], [1]), (9, [9, 0], [24]), (8, [6], [1]), (7, [5, 3], [2]), (20, [0, 4, 6, 8], [30, -40000, -2, 1, 27, 1, 0, 0, 2, 0, 0, -1, 0, 0]), (23, [5, 3, 6], [24, 1, -1, 25])], [], [(0, -1, 40100, [])], [(20, [12, 0, 11], [30, 40000, 1, 0, 0, 2, 1, 27, -1, 0, 0]), (20, [12, 0, 11], [30, -40000, -1, 0, 0, -2, 1, 27, 1, 0, 0])], [(12, 8, -1000000000000, -1)], [(11, 4, 1, 1), (11, 3, -4294967296, 0), (5, 3, -4294967296, -1), (4, 3, -4294967296, -1), (5, 3, -4294967296, 23), (5, 4, -4294967296, 24), (5, 6, -4294967296, 24), (6, 3, -4294967296, 0), (6, 4, -4294967296, 1), (6, 5, -4294967296, 1)])
theorem oo_Mo_same_5 {kA : Nat → ClassId} : or_ok kA GG o_Mo_same_5 := by
  intro A ta ws vs hD hth hl hk hds hf
  have hl : vs.length = 12 := hl
  have hk : ∀ q ∈ ([(0, (2, 0, 0, [150])), (3, (0, 1, 24, [])), (4, (0, 0, 23, [])), (5, (0, 0, 23, [])), (6, (0, 1, 1, [])), (8, (0, -1, 40100, [])), (9, (2, 0, 0, [164])), (10, (0, 1, 1, [])), (11, (0, 1, 24, []))] : List (Nat × tv_T)), tv_ok ta q.2 (n_v vs q.1) := hk
  obtain ⟨t0, hk⟩ := List.forall_mem_cons.mp hk
  have t0 : tv_ok ta (2, 0, 0, [150]) (n_v vs 0) := t0
  have r0 : ta (v_ad (n_v vs 0)) = some 150 := tv_rg t0
  obtain ⟨t3, hk⟩ := List.forall_mem_cons.mp hk
  have t3 : tv_ok ta (0, 1, 24, []) (n_v vs 3) := t3
  have k3 : 1 ≤ v_iv (n_v vs 3) ∧ v_iv (n_v vs 3) ≤ 24 := tv_rng t3
  obtain ⟨t4, hk⟩ := List.forall_mem_cons.mp hk
  have t4 : tv_ok ta (0, 0, 23, []) (n_v vs 4) := t4
  have k4 : 0 ≤ v_iv (n_v vs 4) ∧ v_iv (n_v vs 4) ≤ 23 := tv_rng t4
  obtain ⟨t5, hk⟩ := List.forall_mem_cons.mp hk
  have t5 : tv_ok ta (0, 0, 23, []) (n_v vs 5) := t5
  have k5 : 0 ≤ v_iv (n_v vs 5) ∧ v_iv (n_v vs 5) ≤ 23 := tv_rng t5
  obtain ⟨t6, hk⟩ := List.forall_mem_cons.mp hk
  have t6 : tv_ok ta (0, 1, 1, []) (n_v vs 6) := t6
  have k6 : 1 ≤ v_iv (n_v vs 6) ∧ v_iv (n_v vs 6) ≤ 1 := tv_rng t6
  obtain ⟨t8, hk⟩ := List.forall_mem_cons.mp hk
  have t8 : tv_ok ta (0, -1, 40100, []) (n_v vs 8) := t8
  have k8 : (-1) ≤ v_iv (n_v vs 8) ∧ v_iv (n_v vs 8) ≤ 40100 := tv_rng t8
  obtain ⟨t9, hk⟩ := List.forall_mem_cons.mp hk
  have t9 : tv_ok ta (2, 0, 0, [164]) (n_v vs 9) := t9
  have r9 : ta (v_ad (n_v vs 9)) = some 164 := tv_rg t9
  obtain ⟨t10, hk⟩ := List.forall_mem_cons.mp hk
  have t10 : tv_ok ta (0, 1, 1, []) (n_v vs 10) := t10
  have k10 : 1 ≤ v_iv (n_v vs 10) ∧ v_iv (n_v vs 10) ≤ 1 := tv_rng t10
  obtain ⟨t11, hk⟩ := List.forall_mem_cons.mp hk
  have t11 : tv_ok ta (0, 1, 24, []) (n_v vs 11) := t11
  have k11 : 1 ≤ v_iv (n_v vs 11) ∧ v_iv (n_v vs 11) ≤ 24 := tv_rng t11
  have hds : ∀ q ∈ ([(11, 4, 1, 1), (11, 3, -4294967296, 0), (5, 3, -4294967296, -1), (4, 3, -4294967296, -1), (5, 3, -4294967296, 23), (5, 4, -4294967296, 24), (5, 6, -4294967296, 24), (6, 3, -4294967296, 0), (6, 4, -4294967296, 1), (6, 5, -4294967296, 1)] : List of_T), n_iv vs q.2.1 + q.2.2.1 ≤ n_iv vs q.1 ∧ n_iv vs q.1 ≤ n_iv vs q.2.1 + q.2.2.2 := hds
  obtain ⟨d0, hds⟩ := List.forall_mem_cons.mp hds
  have d0 : v_iv (n_v vs 4) + 1 ≤ v_iv (n_v vs 11) ∧ v_iv (n_v vs 11) ≤ v_iv (n_v vs 4) + 1 := d0
  obtain ⟨d1, hds⟩ := List.forall_mem_cons.mp hds
  have d1 : v_iv (n_v vs 3) + (-4294967296) ≤ v_iv (n_v vs 11) ∧ v_iv (n_v vs 11) ≤ v_iv (n_v vs 3) + 0 := d1
  obtain ⟨d2, hds⟩ := List.forall_mem_cons.mp hds
  have d2 : v_iv (n_v vs 3) + (-4294967296) ≤ v_iv (n_v vs 5) ∧ v_iv (n_v vs 5) ≤ v_iv (n_v vs 3) + (-1) := d2
  obtain ⟨d3, hds⟩ := List.forall_mem_cons.mp hds
  have d3 : v_iv (n_v vs 3) + (-4294967296) ≤ v_iv (n_v vs 4) ∧ v_iv (n_v vs 4) ≤ v_iv (n_v vs 3) + (-1) := d3
  obtain ⟨d4, hds⟩ := List.forall_mem_cons.mp hds
  have d4 : v_iv (n_v vs 3) + (-4294967296) ≤ v_iv (n_v vs 5) ∧ v_iv (n_v vs 5) ≤ v_iv (n_v vs 3) + 23 := d4
  obtain ⟨d5, hds⟩ := List.forall_mem_cons.mp hds
  have d5 : v_iv (n_v vs 4) + (-4294967296) ≤ v_iv (n_v vs 5) ∧ v_iv (n_v vs 5) ≤ v_iv (n_v vs 4) + 24 := d5
  obtain ⟨d6, hds⟩ := List.forall_mem_cons.mp hds
  have d6 : v_iv (n_v vs 6) + (-4294967296) ≤ v_iv (n_v vs 5) ∧ v_iv (n_v vs 5) ≤ v_iv (n_v vs 6) + 24 := d6
  obtain ⟨d7, hds⟩ := List.forall_mem_cons.mp hds
  have d7 : v_iv (n_v vs 3) + (-4294967296) ≤ v_iv (n_v vs 6) ∧ v_iv (n_v vs 6) ≤ v_iv (n_v vs 3) + 0 := d7
  obtain ⟨d8, hds⟩ := List.forall_mem_cons.mp hds
  have d8 : v_iv (n_v vs 4) + (-4294967296) ≤ v_iv (n_v vs 6) ∧ v_iv (n_v vs 6) ≤ v_iv (n_v vs 4) + 1 := d8
  obtain ⟨d9, hds⟩ := List.forall_mem_cons.mp hds
  have d9 : v_iv (n_v vs 5) + (-4294967296) ≤ v_iv (n_v vs 6) ∧ v_iv (n_v vs 6) ≤ v_iv (n_v vs 5) + 1 := d9
  have hf : fc_ok [(1, [11, 4, 10], []), (8, [6], [1]), (20, [0, 4, 6, 8], [30, -40000, -2, 1, 27, 1, 0, 0, 2, 0, 0, -1, 0, 0]), (23, [5, 3, 6], [24, 1, -1, 25]), (100, [9, 4, 5], []), (8, [6], [1]), (9, [9, 0], [24]), (8, [6], [1]), (7, [5, 3], [2]), (20, [0, 4, 6, 8], [30, -40000, -2, 1, 27, 1, 0, 0, 2, 0, 0, -1, 0, 0]), (23, [5, 3, 6], [24, 1, -1, 25])] ta ws vs := hf
  obtain ⟨f0, hf⟩ := fc_un (show (1 : Nat) < 100 from by decide) hf
  have f0 : v_iv (n_v vs 11) = v_iv (n_v vs 4) + v_iv (n_v vs 10) := f0
  obtain ⟨f1, hf⟩ := fc_un (show (8 : Nat) < 100 from by decide) hf
  have f1 : v_iv (n_v vs 6) ≠ 0 := f1
  obtain ⟨f2, hf⟩ := fc_un (show (20 : Nat) < 100 from by decide) hf
  have f2 : (-2) * w_fi ws (n_v vs 0) 27 + (1 * v_iv (n_v vs 4) + (2 * v_iv (n_v vs 6) + ((-1) * v_iv (n_v vs 8) + 0))) ≤ (-40000) := f2
  obtain ⟨f3, hf⟩ := fc_un (show (23 : Nat) < 100 from by decide) hf
  have f3 : 1 * v_iv (n_v vs 5) + ((-1) * v_iv (n_v vs 3) + (25 * v_iv (n_v vs 6) + 0)) ≤ 24 := f3
  obtain ⟨ta1, w1, le1, ⟨_, s1⟩, hf⟩ := fc_us (show ¬ (100 : Nat) < 100 from by decide) hf
  have s1 : (∀ b j, w_el ws b j = if b = v_ad (n_v vs 9) ∧ j = (v_iv (n_v vs 4)).toNat then v_iv (n_v vs 5) else w_el w1 b j) ∧ ∀ b k, w_fd ws b k = w_fd w1 b k := s1
  obtain ⟨f5, hf⟩ := fc_un (show (8 : Nat) < 100 from by decide) hf
  have f5 : v_iv (n_v vs 6) ≠ 0 := f5
  obtain ⟨f6, hf⟩ := fc_un (show (9 : Nat) < 100 from by decide) hf
  have f6 : n_v vs 9 = w_fd w1 (v_ad (n_v vs 0)) 24 := f6
  obtain ⟨f7, hf⟩ := fc_un (show (8 : Nat) < 100 from by decide) hf
  have f7 : v_iv (n_v vs 6) ≠ 0 := f7
  obtain ⟨f8, hf⟩ := fc_un (show (7 : Nat) < 100 from by decide) hf
  have f8 : v_iv (n_v vs 5) < v_iv (n_v vs 3) := f8
  obtain ⟨f9, hf⟩ := fc_un (show (20 : Nat) < 100 from by decide) hf
  have f9 : (-2) * w_fi w1 (n_v vs 0) 27 + (1 * v_iv (n_v vs 4) + (2 * v_iv (n_v vs 6) + ((-1) * v_iv (n_v vs 8) + 0))) ≤ (-40000) := f9
  obtain ⟨f10, hf⟩ := fc_un (show (23 : Nat) < 100 from by decide) hf
  have f10 : 1 * v_iv (n_v vs 5) + ((-1) * v_iv (n_v vs 3) + (25 * v_iv (n_v vs 6) + 0)) ≤ 24 := f10
  have ar_0_24_1 : w_ar w1 (n_v vs 0) 24 = w_ar ws (n_v vs 0) 24 := by show v_ad (w_fd w1 _ _) = v_ad (w_fd ws _ _); rw [s1.2]
  have cr_0_24 : ta (w_ar ws (n_v vs 0) 24) = some 164 := tv_rg (th_fd hD hth r0 (g := GG_150) rfl (k := 24) (t := (2, 0, 0, [164])) rfl rfl)
  have ad_9 : v_ad (n_v vs 9) = w_ar ws (n_v vs 0) 24 := (congrArg v_ad f6).trans ar_0_24_1
  have fe_0_27_1 : w_fi ws (n_v vs 0) 27 = w_fi w1 (n_v vs 0) 27 := congrArg v_iv (s1.2 _ _)
  have kz_0_27 : 0 ≤ w_fi ws (n_v vs 0) 27 ∧ w_fi ws (n_v vs 0) 27 ≤ 20000 := tv_rng (th_fd hD hth r0 (g := GG_150) rfl (k := 27) (t := (0, 0, 20000, [])) rfl rfl)
  have kb_0_27 : 0 ≤ w_fi ws (n_v vs 0) 27 ∧ w_fi ws (n_v vs 0) 27 ≤ 20000 := tv_rng (th_fd hD hth r0 (g := GG_150) rfl (k := 27) (t := (0, 0, 20000, [])) rfl rfl)
  obtain ⟨x, ex, hx⟩ := iv_ex (ta := ta) (lo := (-1)) (hi := 40100) (z := 40000 + ((-2) * w_fi ws (n_v vs 0) 27 + (1 * v_iv (n_v vs 11) + 0))) (by omega) (by omega) (by omega) (by omega)
  have ex2 : v_iv (Value.int x) = 40000 + ((-2) * w_fi ws (n_v vs 0) 27 + (1 * v_iv (n_v vs 11) + 0)) := ex
  have ex3 : (-1) ≤ v_iv (Value.int x) ∧ v_iv (Value.int x) ≤ 40100 := tv_rng hx
  have e_0 : n_v (vs ++ [Value.int x]) 0 = n_v vs 0 := n_v_old (by rw [hl]; decide)
  have e_11 : n_v (vs ++ [Value.int x]) 11 = n_v vs 11 := n_v_old (by rw [hl]; decide)
  have e_12 : n_v (vs ++ [Value.int x]) 12 = Value.int x := n_v_new hl
  have nf0 : fc_1 (20, [12, 0, 11], [30, 40000, 1, 0, 0, 2, 1, 27, -1, 0, 0]) ws (vs ++ [Value.int x]) := by
    refine ⟨fun n hn => ?_, ?_⟩
    · have hn : n ∈ [12, 0, 11] := hn
      rw [List.length_append, hl]
      simp only [List.mem_cons, List.not_mem_nil, or_false] at hn
      show n < 12 + 1; omega
    · show 1 * v_iv (n_v (vs ++ [Value.int x]) 12) + (2 * w_fi ws (n_v (vs ++ [Value.int x]) 0) 27 + ((-1) * v_iv (n_v (vs ++ [Value.int x]) 11) + 0)) ≤ 40000
      rw [e_0]
      rw [e_11]
      rw [e_12]
      omega
  have nf1 : fc_1 (20, [12, 0, 11], [30, -40000, -1, 0, 0, -2, 1, 27, 1, 0, 0]) ws (vs ++ [Value.int x]) := by
    refine ⟨fun n hn => ?_, ?_⟩
    · have hn : n ∈ [12, 0, 11] := hn
      rw [List.length_append, hl]
      simp only [List.mem_cons, List.not_mem_nil, or_false] at hn
      show n < 12 + 1; omega
    · show (-1) * v_iv (n_v (vs ++ [Value.int x]) 12) + ((-2) * w_fi ws (n_v (vs ++ [Value.int x]) 0) 27 + (1 * v_iv (n_v (vs ++ [Value.int x]) 11) + 0)) ≤ (-40000)
      rw [e_0]
      rw [e_11]
      rw [e_12]
      omega
  obtain ⟨x0, e0, _, _⟩ := tv_int t8 rfl
  have e1 : v_iv (n_v vs 8) = x0.toInt := by rw [e0]; rfl
  have ho : sy_ofs (vs ++ [Value.int x]) (12, 8, -1000000000000, -1) := by
    refine ⟨x, x0, by rw [List.getElem?_append_right (by rw [hl]; decide), hl]; rfl, ?_, ?_, ?_⟩
    · rw [List.getElem?_append_left (by rw [hl]; decide)]; exact n_v_some (by rw [hl]; decide) e0
    · show x0.toInt + (-1000000000000) ≤ x.toInt; omega
    · show x.toInt ≤ x0.toInt + (-1); omega
  exact ⟨(fun _ h => (by cases h)), [Value.int x], ag_one hx, List.forall_mem_cons.mpr ⟨⟨show (20 : Nat) < 100 from by decide, nf0⟩, List.forall_mem_cons.mpr ⟨⟨show (20 : Nat) < 100 from by decide, nf1⟩, (fun _ h => (by cases h))⟩⟩, List.forall_mem_cons.mpr ⟨ho, (fun _ h => (by cases h))⟩⟩
def o_Mo_same_6 : or_T := (172, 11, [(0, (2, 0, 0, [150])), (3, (0, 1, 24, [])), (4, (0, 0, 23, [])), (5, (0, 0, 23, [])), (6, (0, 0, 0, [])), (8, (0, -1, 40100, []))], [(8, [6], [0]), (7, [5, 3], [2]), (20, [0, 4, 6, 8], [30, -40000, -2, 1, 27, 1, 0, 0, 2, 0, 0, -1, 0, 0]), (23, [5, 3, 6], [24, 1, -1, 25])], [], [(0, -1, 40100, [])], [(20, [0, 4, 6, 11], [30, -40000, -2, 1, 27, 1, 0, 0, 2, 0, 0, -1, 0, 0]), (23, [5, 3], [-1, 1, -1])], [(11, 8, 0, 0)], [(5, 3, -4294967296, -1), (4, 3, -4294967296, -1), (5, 3, -4294967296, 23), (5, 4, -4294967296, 24), (5, 6, -4294967296, 24), (6, 3, -4294967296, 0), (6, 4, -4294967296, 1), (6, 5, -4294967296, 1)])
theorem oo_Mo_same_6 {kA : Nat → ClassId} : or_ok kA GG o_Mo_same_6 := by
  intro A ta ws vs hD hth hl hk hds hf
  have hl : vs.length = 11 := hl
  have hk : ∀ q ∈ ([(0, (2, 0, 0, [150])), (3, (0, 1, 24, [])), (4, (0, 0, 23, [])), (5, (0, 0, 23, [])), (6, (0, 0, 0, [])), (8, (0, -1, 40100, []))] : List (Nat × tv_T)), tv_ok ta q.2 (n_v vs q.1) := hk
  obtain ⟨t0, hk⟩ := List.forall_mem_cons.mp hk
  have t0 : tv_ok ta (2, 0, 0, [150]) (n_v vs 0) := t0
  have r0 : ta (v_ad (n_v vs 0)) = some 150 := tv_rg t0
  obtain ⟨t3, hk⟩ := List.forall_mem_cons.mp hk
  have t3 : tv_ok ta (0, 1, 24, []) (n_v vs 3) := t3
  have k3 : 1 ≤ v_iv (n_v vs 3) ∧ v_iv (n_v vs 3) ≤ 24 := tv_rng t3
  obtain ⟨t4, hk⟩ := List.forall_mem_cons.mp hk
  have t4 : tv_ok ta (0, 0, 23, []) (n_v vs 4) := t4
  have k4 : 0 ≤ v_iv (n_v vs 4) ∧ v_iv (n_v vs 4) ≤ 23 := tv_rng t4
  obtain ⟨t5, hk⟩ := List.forall_mem_cons.mp hk
  have t5 : tv_ok ta (0, 0, 23, []) (n_v vs 5) := t5
  have k5 : 0 ≤ v_iv (n_v vs 5) ∧ v_iv (n_v vs 5) ≤ 23 := tv_rng t5
  obtain ⟨t6, hk⟩ := List.forall_mem_cons.mp hk
  have t6 : tv_ok ta (0, 0, 0, []) (n_v vs 6) := t6
  have k6 : 0 ≤ v_iv (n_v vs 6) ∧ v_iv (n_v vs 6) ≤ 0 := tv_rng t6
  obtain ⟨t8, hk⟩ := List.forall_mem_cons.mp hk
  have t8 : tv_ok ta (0, -1, 40100, []) (n_v vs 8) := t8
  have k8 : (-1) ≤ v_iv (n_v vs 8) ∧ v_iv (n_v vs 8) ≤ 40100 := tv_rng t8
  have hds : ∀ q ∈ ([(5, 3, -4294967296, -1), (4, 3, -4294967296, -1), (5, 3, -4294967296, 23), (5, 4, -4294967296, 24), (5, 6, -4294967296, 24), (6, 3, -4294967296, 0), (6, 4, -4294967296, 1), (6, 5, -4294967296, 1)] : List of_T), n_iv vs q.2.1 + q.2.2.1 ≤ n_iv vs q.1 ∧ n_iv vs q.1 ≤ n_iv vs q.2.1 + q.2.2.2 := hds
  obtain ⟨d0, hds⟩ := List.forall_mem_cons.mp hds
  have d0 : v_iv (n_v vs 3) + (-4294967296) ≤ v_iv (n_v vs 5) ∧ v_iv (n_v vs 5) ≤ v_iv (n_v vs 3) + (-1) := d0
  obtain ⟨d1, hds⟩ := List.forall_mem_cons.mp hds
  have d1 : v_iv (n_v vs 3) + (-4294967296) ≤ v_iv (n_v vs 4) ∧ v_iv (n_v vs 4) ≤ v_iv (n_v vs 3) + (-1) := d1
  obtain ⟨d2, hds⟩ := List.forall_mem_cons.mp hds
  have d2 : v_iv (n_v vs 3) + (-4294967296) ≤ v_iv (n_v vs 5) ∧ v_iv (n_v vs 5) ≤ v_iv (n_v vs 3) + 23 := d2
  obtain ⟨d3, hds⟩ := List.forall_mem_cons.mp hds
  have d3 : v_iv (n_v vs 4) + (-4294967296) ≤ v_iv (n_v vs 5) ∧ v_iv (n_v vs 5) ≤ v_iv (n_v vs 4) + 24 := d3
  obtain ⟨d4, hds⟩ := List.forall_mem_cons.mp hds
  have d4 : v_iv (n_v vs 6) + (-4294967296) ≤ v_iv (n_v vs 5) ∧ v_iv (n_v vs 5) ≤ v_iv (n_v vs 6) + 24 := d4
  obtain ⟨d5, hds⟩ := List.forall_mem_cons.mp hds
  have d5 : v_iv (n_v vs 3) + (-4294967296) ≤ v_iv (n_v vs 6) ∧ v_iv (n_v vs 6) ≤ v_iv (n_v vs 3) + 0 := d5
  obtain ⟨d6, hds⟩ := List.forall_mem_cons.mp hds
  have d6 : v_iv (n_v vs 4) + (-4294967296) ≤ v_iv (n_v vs 6) ∧ v_iv (n_v vs 6) ≤ v_iv (n_v vs 4) + 1 := d6
  obtain ⟨d7, hds⟩ := List.forall_mem_cons.mp hds
  have d7 : v_iv (n_v vs 5) + (-4294967296) ≤ v_iv (n_v vs 6) ∧ v_iv (n_v vs 6) ≤ v_iv (n_v vs 5) + 1 := d7
  have hf : fc_ok [(8, [6], [0]), (7, [5, 3], [2]), (20, [0, 4, 6, 8], [30, -40000, -2, 1, 27, 1, 0, 0, 2, 0, 0, -1, 0, 0]), (23, [5, 3, 6], [24, 1, -1, 25])] ta ws vs := hf
  obtain ⟨f0, hf⟩ := fc_un (show (8 : Nat) < 100 from by decide) hf
  have f0 : v_iv (n_v vs 6) = 0 := f0
  obtain ⟨f1, hf⟩ := fc_un (show (7 : Nat) < 100 from by decide) hf
  have f1 : v_iv (n_v vs 5) < v_iv (n_v vs 3) := f1
  obtain ⟨f2, hf⟩ := fc_un (show (20 : Nat) < 100 from by decide) hf
  have f2 : (-2) * w_fi ws (n_v vs 0) 27 + (1 * v_iv (n_v vs 4) + (2 * v_iv (n_v vs 6) + ((-1) * v_iv (n_v vs 8) + 0))) ≤ (-40000) := f2
  obtain ⟨f3, hf⟩ := fc_un (show (23 : Nat) < 100 from by decide) hf
  have f3 : 1 * v_iv (n_v vs 5) + ((-1) * v_iv (n_v vs 3) + (25 * v_iv (n_v vs 6) + 0)) ≤ 24 := f3
  have kz_0_27 : 0 ≤ w_fi ws (n_v vs 0) 27 ∧ w_fi ws (n_v vs 0) 27 ≤ 20000 := tv_rng (th_fd hD hth r0 (g := GG_150) rfl (k := 27) (t := (0, 0, 20000, [])) rfl rfl)
  obtain ⟨x, ex, hx⟩ := iv_ex (ta := ta) (lo := (-1)) (hi := 40100) (z := 0 + (1 * v_iv (n_v vs 8) + 0)) (by omega) (by omega) (by omega) (by omega)
  have ex2 : v_iv (Value.int x) = 0 + (1 * v_iv (n_v vs 8) + 0) := ex
  have ex3 : (-1) ≤ v_iv (Value.int x) ∧ v_iv (Value.int x) ≤ 40100 := tv_rng hx
  have e_0 : n_v (vs ++ [Value.int x]) 0 = n_v vs 0 := n_v_old (by rw [hl]; decide)
  have e_3 : n_v (vs ++ [Value.int x]) 3 = n_v vs 3 := n_v_old (by rw [hl]; decide)
  have e_4 : n_v (vs ++ [Value.int x]) 4 = n_v vs 4 := n_v_old (by rw [hl]; decide)
  have e_5 : n_v (vs ++ [Value.int x]) 5 = n_v vs 5 := n_v_old (by rw [hl]; decide)
  have e_6 : n_v (vs ++ [Value.int x]) 6 = n_v vs 6 := n_v_old (by rw [hl]; decide)
  have e_11 : n_v (vs ++ [Value.int x]) 11 = Value.int x := n_v_new hl
  have nf0 : fc_1 (20, [0, 4, 6, 11], [30, -40000, -2, 1, 27, 1, 0, 0, 2, 0, 0, -1, 0, 0]) ws (vs ++ [Value.int x]) := by
    refine ⟨fun n hn => ?_, ?_⟩
    · have hn : n ∈ [0, 4, 6, 11] := hn
      rw [List.length_append, hl]
      simp only [List.mem_cons, List.not_mem_nil, or_false] at hn
      show n < 11 + 1; omega
    · show (-2) * w_fi ws (n_v (vs ++ [Value.int x]) 0) 27 + (1 * v_iv (n_v (vs ++ [Value.int x]) 4) + (2 * v_iv (n_v (vs ++ [Value.int x]) 6) + ((-1) * v_iv (n_v (vs ++ [Value.int x]) 11) + 0))) ≤ (-40000)
      rw [e_0]
      rw [e_4]
      rw [e_6]
      rw [e_11]
      omega
  have nf1 : fc_1 (23, [5, 3], [-1, 1, -1]) ws (vs ++ [Value.int x]) := by
    refine ⟨fun n hn => ?_, ?_⟩
    · have hn : n ∈ [5, 3] := hn
      rw [List.length_append, hl]
      simp only [List.mem_cons, List.not_mem_nil, or_false] at hn
      show n < 11 + 1; omega
    · show 1 * v_iv (n_v (vs ++ [Value.int x]) 5) + ((-1) * v_iv (n_v (vs ++ [Value.int x]) 3) + 0) ≤ (-1)
      rw [e_3]
      rw [e_5]
      omega
  obtain ⟨x0, e0, _, _⟩ := tv_int t8 rfl
  have e1 : v_iv (n_v vs 8) = x0.toInt := by rw [e0]; rfl
  have ho : sy_ofs (vs ++ [Value.int x]) (11, 8, 0, 0) := by
    refine ⟨x, x0, by rw [List.getElem?_append_right (by rw [hl]; decide), hl]; rfl, ?_, ?_, ?_⟩
    · rw [List.getElem?_append_left (by rw [hl]; decide)]; exact n_v_some (by rw [hl]; decide) e0
    · show x0.toInt + 0 ≤ x.toInt; omega
    · show x.toInt ≤ x0.toInt + 0; omega
  exact ⟨(fun _ h => (by cases h)), [Value.int x], ag_one hx, List.forall_mem_cons.mpr ⟨⟨show (20 : Nat) < 100 from by decide, nf0⟩, List.forall_mem_cons.mpr ⟨⟨show (23 : Nat) < 100 from by decide, nf1⟩, (fun _ h => (by cases h))⟩⟩, List.forall_mem_cons.mpr ⟨ho, (fun _ h => (by cases h))⟩⟩
def o_Mo_same_7 : or_T := (155, 11, [(0, (2, 0, 0, [150])), (3, (0, 2, 24, [])), (4, (0, 1, 23, [])), (5, (0, 0, 23, [])), (6, (0, 0, 0, [])), (8, (0, 1, 23, [])), (9, (0, -1, 40100, [])), (10, (0, 1, 24, []))], [(6, [10, 5], [1]), (8, [6], [0]), (7, [8, 4], [3]), (20, [0, 4, 6, 9], [30, -40000, -2, 1, 27, 1, 0, 0, 2, 0, 0, -1, 0, 0]), (23, [5, 3], [-1, 1, -1])], [], [(0, -1, 40100, [])], [(20, [0, 4, 6, 11], [30, -40000, -2, 1, 27, 1, 0, 0, 2, 0, 0, -1, 0, 0]), (23, [10, 3, 6], [24, 1, -1, 25])], [(11, 9, 0, 0)], [(10, 5, 1, 1), (10, 3, -4294967296, 0), (8, 4, 0, 4294967296), (4, 3, -4294967296, -1), (5, 3, -4294967296, -1), (6, 3, -4294967296, -1), (6, 4, -4294967296, 0), (6, 5, -4294967296, 0), (6, 8, -4294967296, 0), (8, 3, -4294967296, -1), (8, 4, -4294967296, 0)])
theorem oo_Mo_same_7 {kA : Nat → ClassId} : or_ok kA GG o_Mo_same_7 := by
  intro A ta ws vs hD hth hl hk hds hf
  have hl : vs.length = 11 := hl
  have hk : ∀ q ∈ ([(0, (2, 0, 0, [150])), (3, (0, 2, 24, [])), (4, (0, 1, 23, [])), (5, (0, 0, 23, [])), (6, (0, 0, 0, [])), (8, (0, 1, 23, [])), (9, (0, -1, 40100, [])), (10, (0, 1, 24, []))] : List (Nat × tv_T)), tv_ok ta q.2 (n_v vs q.1) := hk
  obtain ⟨t0, hk⟩ := List.forall_mem_cons.mp hk
  have t0 : tv_ok ta (2, 0, 0, [150]) (n_v vs 0) := t0
  have r0 : ta (v_ad (n_v vs 0)) = some 150 := tv_rg t0
  obtain ⟨t3, hk⟩ := List.forall_mem_cons.mp hk
  have t3 : tv_ok ta (0, 2, 24, []) (n_v vs 3) := t3
  have k3 : 2 ≤ v_iv (n_v vs 3) ∧ v_iv (n_v vs 3) ≤ 24 := tv_rng t3
  obtain ⟨t4, hk⟩ := List.forall_mem_cons.mp hk
  have t4 : tv_ok ta (0, 1, 23, []) (n_v vs 4) := t4
  have k4 : 1 ≤ v_iv (n_v vs 4) ∧ v_iv (n_v vs 4) ≤ 23 := tv_rng t4
  obtain ⟨t5, hk⟩ := List.forall_mem_cons.mp hk
  have t5 : tv_ok ta (0, 0, 23, []) (n_v vs 5) := t5
  have k5 : 0 ≤ v_iv (n_v vs 5) ∧ v_iv (n_v vs 5) ≤ 23 := tv_rng t5
  obtain ⟨t6, hk⟩ := List.forall_mem_cons.mp hk
  have t6 : tv_ok ta (0, 0, 0, []) (n_v vs 6) := t6
  have k6 : 0 ≤ v_iv (n_v vs 6) ∧ v_iv (n_v vs 6) ≤ 0 := tv_rng t6
  obtain ⟨t8, hk⟩ := List.forall_mem_cons.mp hk
  have t8 : tv_ok ta (0, 1, 23, []) (n_v vs 8) := t8
  have k8 : 1 ≤ v_iv (n_v vs 8) ∧ v_iv (n_v vs 8) ≤ 23 := tv_rng t8
  obtain ⟨t9, hk⟩ := List.forall_mem_cons.mp hk
  have t9 : tv_ok ta (0, -1, 40100, []) (n_v vs 9) := t9
  have k9 : (-1) ≤ v_iv (n_v vs 9) ∧ v_iv (n_v vs 9) ≤ 40100 := tv_rng t9
  obtain ⟨t10, hk⟩ := List.forall_mem_cons.mp hk
  have t10 : tv_ok ta (0, 1, 24, []) (n_v vs 10) := t10
  have k10 : 1 ≤ v_iv (n_v vs 10) ∧ v_iv (n_v vs 10) ≤ 24 := tv_rng t10
  have hds : ∀ q ∈ ([(10, 5, 1, 1), (10, 3, -4294967296, 0), (8, 4, 0, 4294967296), (4, 3, -4294967296, -1), (5, 3, -4294967296, -1), (6, 3, -4294967296, -1), (6, 4, -4294967296, 0), (6, 5, -4294967296, 0), (6, 8, -4294967296, 0), (8, 3, -4294967296, -1), (8, 4, -4294967296, 0)] : List of_T), n_iv vs q.2.1 + q.2.2.1 ≤ n_iv vs q.1 ∧ n_iv vs q.1 ≤ n_iv vs q.2.1 + q.2.2.2 := hds
  obtain ⟨d0, hds⟩ := List.forall_mem_cons.mp hds
  have d0 : v_iv (n_v vs 5) + 1 ≤ v_iv (n_v vs 10) ∧ v_iv (n_v vs 10) ≤ v_iv (n_v vs 5) + 1 := d0
  obtain ⟨d1, hds⟩ := List.forall_mem_cons.mp hds
  have d1 : v_iv (n_v vs 3) + (-4294967296) ≤ v_iv (n_v vs 10) ∧ v_iv (n_v vs 10) ≤ v_iv (n_v vs 3) + 0 := d1
  obtain ⟨d2, hds⟩ := List.forall_mem_cons.mp hds
  have d2 : v_iv (n_v vs 4) + 0 ≤ v_iv (n_v vs 8) ∧ v_iv (n_v vs 8) ≤ v_iv (n_v vs 4) + 4294967296 := d2
  obtain ⟨d3, hds⟩ := List.forall_mem_cons.mp hds
  have d3 : v_iv (n_v vs 3) + (-4294967296) ≤ v_iv (n_v vs 4) ∧ v_iv (n_v vs 4) ≤ v_iv (n_v vs 3) + (-1) := d3
  obtain ⟨d4, hds⟩ := List.forall_mem_cons.mp hds
  have d4 : v_iv (n_v vs 3) + (-4294967296) ≤ v_iv (n_v vs 5) ∧ v_iv (n_v vs 5) ≤ v_iv (n_v vs 3) + (-1) := d4
  obtain ⟨d5, hds⟩ := List.forall_mem_cons.mp hds
  have d5 : v_iv (n_v vs 3) + (-4294967296) ≤ v_iv (n_v vs 6) ∧ v_iv (n_v vs 6) ≤ v_iv (n_v vs 3) + (-1) := d5
  obtain ⟨d6, hds⟩ := List.forall_mem_cons.mp hds
  have d6 : v_iv (n_v vs 4) + (-4294967296) ≤ v_iv (n_v vs 6) ∧ v_iv (n_v vs 6) ≤ v_iv (n_v vs 4) + 0 := d6
  obtain ⟨d7, hds⟩ := List.forall_mem_cons.mp hds
  have d7 : v_iv (n_v vs 5) + (-4294967296) ≤ v_iv (n_v vs 6) ∧ v_iv (n_v vs 6) ≤ v_iv (n_v vs 5) + 0 := d7
  obtain ⟨d8, hds⟩ := List.forall_mem_cons.mp hds
  have d8 : v_iv (n_v vs 8) + (-4294967296) ≤ v_iv (n_v vs 6) ∧ v_iv (n_v vs 6) ≤ v_iv (n_v vs 8) + 0 := d8
  obtain ⟨d9, hds⟩ := List.forall_mem_cons.mp hds
  have d9 : v_iv (n_v vs 3) + (-4294967296) ≤ v_iv (n_v vs 8) ∧ v_iv (n_v vs 8) ≤ v_iv (n_v vs 3) + (-1) := d9
  obtain ⟨d10, hds⟩ := List.forall_mem_cons.mp hds
  have d10 : v_iv (n_v vs 4) + (-4294967296) ≤ v_iv (n_v vs 8) ∧ v_iv (n_v vs 8) ≤ v_iv (n_v vs 4) + 0 := d10
  have hf : fc_ok [(6, [10, 5], [1]), (8, [6], [0]), (7, [8, 4], [3]), (20, [0, 4, 6, 9], [30, -40000, -2, 1, 27, 1, 0, 0, 2, 0, 0, -1, 0, 0]), (23, [5, 3], [-1, 1, -1])] ta ws vs := hf
  obtain ⟨f0, hf⟩ := fc_un (show (6 : Nat) < 100 from by decide) hf
  have f0 : v_iv (n_v vs 10) = v_iv (n_v vs 5) + 1 := f0
  obtain ⟨f1, hf⟩ := fc_un (show (8 : Nat) < 100 from by decide) hf
  have f1 : v_iv (n_v vs 6) = 0 := f1
  obtain ⟨f2, hf⟩ := fc_un (show (7 : Nat) < 100 from by decide) hf
  have f2 : v_iv (n_v vs 4) ≤ v_iv (n_v vs 8) := f2
  obtain ⟨f3, hf⟩ := fc_un (show (20 : Nat) < 100 from by decide) hf
  have f3 : (-2) * w_fi ws (n_v vs 0) 27 + (1 * v_iv (n_v vs 4) + (2 * v_iv (n_v vs 6) + ((-1) * v_iv (n_v vs 9) + 0))) ≤ (-40000) := f3
  obtain ⟨f4, hf⟩ := fc_un (show (23 : Nat) < 100 from by decide) hf
  have f4 : 1 * v_iv (n_v vs 5) + ((-1) * v_iv (n_v vs 3) + 0) ≤ (-1) := f4
  have kz_0_27 : 0 ≤ w_fi ws (n_v vs 0) 27 ∧ w_fi ws (n_v vs 0) 27 ≤ 20000 := tv_rng (th_fd hD hth r0 (g := GG_150) rfl (k := 27) (t := (0, 0, 20000, [])) rfl rfl)
  obtain ⟨x, ex, hx⟩ := iv_ex (ta := ta) (lo := (-1)) (hi := 40100) (z := 0 + (1 * v_iv (n_v vs 9) + 0)) (by omega) (by omega) (by omega) (by omega)
  have ex2 : v_iv (Value.int x) = 0 + (1 * v_iv (n_v vs 9) + 0) := ex
  have ex3 : (-1) ≤ v_iv (Value.int x) ∧ v_iv (Value.int x) ≤ 40100 := tv_rng hx
  have e_0 : n_v (vs ++ [Value.int x]) 0 = n_v vs 0 := n_v_old (by rw [hl]; decide)
  have e_3 : n_v (vs ++ [Value.int x]) 3 = n_v vs 3 := n_v_old (by rw [hl]; decide)
  have e_4 : n_v (vs ++ [Value.int x]) 4 = n_v vs 4 := n_v_old (by rw [hl]; decide)
  have e_6 : n_v (vs ++ [Value.int x]) 6 = n_v vs 6 := n_v_old (by rw [hl]; decide)
  have e_10 : n_v (vs ++ [Value.int x]) 10 = n_v vs 10 := n_v_old (by rw [hl]; decide)
  have e_11 : n_v (vs ++ [Value.int x]) 11 = Value.int x := n_v_new hl
  have nf0 : fc_1 (20, [0, 4, 6, 11], [30, -40000, -2, 1, 27, 1, 0, 0, 2, 0, 0, -1, 0, 0]) ws (vs ++ [Value.int x]) := by
    refine ⟨fun n hn => ?_, ?_⟩
    · have hn : n ∈ [0, 4, 6, 11] := hn
      rw [List.length_append, hl]
      simp only [List.mem_cons, List.not_mem_nil, or_false] at hn
      show n < 11 + 1; omega
    · show (-2) * w_fi ws (n_v (vs ++ [Value.int x]) 0) 27 + (1 * v_iv (n_v (vs ++ [Value.int x]) 4) + (2 * v_iv (n_v (vs ++ [Value.int x]) 6) + ((-1) * v_iv (n_v (vs ++ [Value.int x]) 11) + 0))) ≤ (-40000)
      rw [e_0]
      rw [e_4]
      rw [e_6]
      rw [e_11]
      omega
  have nf1 : fc_1 (23, [10, 3, 6], [24, 1, -1, 25]) ws (vs ++ [Value.int x]) := by
    refine ⟨fun n hn => ?_, ?_⟩
    · have hn : n ∈ [10, 3, 6] := hn
      rw [List.length_append, hl]
      simp only [List.mem_cons, List.not_mem_nil, or_false] at hn
      show n < 11 + 1; omega
    · show 1 * v_iv (n_v (vs ++ [Value.int x]) 10) + ((-1) * v_iv (n_v (vs ++ [Value.int x]) 3) + (25 * v_iv (n_v (vs ++ [Value.int x]) 6) + 0)) ≤ 24
      rw [e_3]
      rw [e_6]
      rw [e_10]
      omega
  obtain ⟨x0, e0, _, _⟩ := tv_int t9 rfl
  have e1 : v_iv (n_v vs 9) = x0.toInt := by rw [e0]; rfl
  have ho : sy_ofs (vs ++ [Value.int x]) (11, 9, 0, 0) := by
    refine ⟨x, x0, by rw [List.getElem?_append_right (by rw [hl]; decide), hl]; rfl, ?_, ?_, ?_⟩
    · rw [List.getElem?_append_left (by rw [hl]; decide)]; exact n_v_some (by rw [hl]; decide) e0
    · show x0.toInt + 0 ≤ x.toInt; omega
    · show x.toInt ≤ x0.toInt + 0; omega
  exact ⟨(fun _ h => (by cases h)), [Value.int x], ag_one hx, List.forall_mem_cons.mpr ⟨⟨show (20 : Nat) < 100 from by decide, nf0⟩, List.forall_mem_cons.mpr ⟨⟨show (23 : Nat) < 100 from by decide, nf1⟩, (fun _ h => (by cases h))⟩⟩, List.forall_mem_cons.mpr ⟨ho, (fun _ h => (by cases h))⟩⟩
def o_Mo_same_8 : or_T := (155, 15, [(0, (2, 0, 0, [150])), (3, (0, 1, 24, [])), (4, (0, 0, 23, [])), (5, (0, 0, 23, [])), (6, (0, 0, 0, [])), (8, (0, 0, 23, [])), (9, (0, -1, 40100, [])), (10, (0, 0, 19999, [])), (11, (0, 20000, 20000, [])), (12, (0, 1, 1, [])), (13, (0, 1, 20000, [])), (14, (0, 1, 1, []))], [(8, [14], [1]), (23, [5, 3], [-1, 1, -1]), (101, [0, 13], [27]), (1, [13, 10, 12], []), (9, [10, 0], [27]), (7, [10, 11], [1]), (7, [8, 4], [3]), (20, [0, 4, 6, 9], [30, -40000, -2, 1, 27, 1, 0, 0, 2, 0, 0, -1, 0, 0]), (23, [5, 3], [-1, 1, -1])], [], [(0, -1, 40100, [])], [(20, [0, 4, 14, 15], [30, -40000, -2, 1, 27, 1, 0, 0, 2, 0, 0, -1, 0, 0]), (23, [5, 3, 14], [24, 1, -1, 25])], [(15, 9, 0, 0)], [(13, 10, 1, 1), (8, 4, 0, 4294967296), (4, 3, -4294967296, -1), (5, 3, -4294967296, -1), (6, 3, -4294967296, -1), (6, 4, -4294967296, 0), (6, 5, -4294967296, 0), (6, 8, -4294967296, 0), (8, 3, -4294967296, -1), (8, 4, -4294967296, 0)])
theorem oo_Mo_same_8 {kA : Nat → ClassId} : or_ok kA GG o_Mo_same_8 := by
  intro A ta ws vs hD hth hl hk hds hf
  have hl : vs.length = 15 := hl
  have hk : ∀ q ∈ ([(0, (2, 0, 0, [150])), (3, (0, 1, 24, [])), (4, (0, 0, 23, [])), (5, (0, 0, 23, [])), (6, (0, 0, 0, [])), (8, (0, 0, 23, [])), (9, (0, -1, 40100, [])), (10, (0, 0, 19999, [])), (11, (0, 20000, 20000, [])), (12, (0, 1, 1, [])), (13, (0, 1, 20000, [])), (14, (0, 1, 1, []))] : List (Nat × tv_T)), tv_ok ta q.2 (n_v vs q.1) := hk
  obtain ⟨t0, hk⟩ := List.forall_mem_cons.mp hk
  have t0 : tv_ok ta (2, 0, 0, [150]) (n_v vs 0) := t0
  have r0 : ta (v_ad (n_v vs 0)) = some 150 := tv_rg t0
  obtain ⟨t3, hk⟩ := List.forall_mem_cons.mp hk
  have t3 : tv_ok ta (0, 1, 24, []) (n_v vs 3) := t3
  have k3 : 1 ≤ v_iv (n_v vs 3) ∧ v_iv (n_v vs 3) ≤ 24 := tv_rng t3
  obtain ⟨t4, hk⟩ := List.forall_mem_cons.mp hk
  have t4 : tv_ok ta (0, 0, 23, []) (n_v vs 4) := t4
  have k4 : 0 ≤ v_iv (n_v vs 4) ∧ v_iv (n_v vs 4) ≤ 23 := tv_rng t4
  obtain ⟨t5, hk⟩ := List.forall_mem_cons.mp hk
  have t5 : tv_ok ta (0, 0, 23, []) (n_v vs 5) := t5
  have k5 : 0 ≤ v_iv (n_v vs 5) ∧ v_iv (n_v vs 5) ≤ 23 := tv_rng t5
  obtain ⟨t6, hk⟩ := List.forall_mem_cons.mp hk
  have t6 : tv_ok ta (0, 0, 0, []) (n_v vs 6) := t6
  have k6 : 0 ≤ v_iv (n_v vs 6) ∧ v_iv (n_v vs 6) ≤ 0 := tv_rng t6
  obtain ⟨t8, hk⟩ := List.forall_mem_cons.mp hk
  have t8 : tv_ok ta (0, 0, 23, []) (n_v vs 8) := t8
  have k8 : 0 ≤ v_iv (n_v vs 8) ∧ v_iv (n_v vs 8) ≤ 23 := tv_rng t8
  obtain ⟨t9, hk⟩ := List.forall_mem_cons.mp hk
  have t9 : tv_ok ta (0, -1, 40100, []) (n_v vs 9) := t9
  have k9 : (-1) ≤ v_iv (n_v vs 9) ∧ v_iv (n_v vs 9) ≤ 40100 := tv_rng t9
  obtain ⟨t10, hk⟩ := List.forall_mem_cons.mp hk
  have t10 : tv_ok ta (0, 0, 19999, []) (n_v vs 10) := t10
  have k10 : 0 ≤ v_iv (n_v vs 10) ∧ v_iv (n_v vs 10) ≤ 19999 := tv_rng t10
  obtain ⟨t11, hk⟩ := List.forall_mem_cons.mp hk
  have t11 : tv_ok ta (0, 20000, 20000, []) (n_v vs 11) := t11
  have k11 : 20000 ≤ v_iv (n_v vs 11) ∧ v_iv (n_v vs 11) ≤ 20000 := tv_rng t11
  obtain ⟨t12, hk⟩ := List.forall_mem_cons.mp hk
  have t12 : tv_ok ta (0, 1, 1, []) (n_v vs 12) := t12
  have k12 : 1 ≤ v_iv (n_v vs 12) ∧ v_iv (n_v vs 12) ≤ 1 := tv_rng t12
  obtain ⟨t13, hk⟩ := List.forall_mem_cons.mp hk
  have t13 : tv_ok ta (0, 1, 20000, []) (n_v vs 13) := t13
  have k13 : 1 ≤ v_iv (n_v vs 13) ∧ v_iv (n_v vs 13) ≤ 20000 := tv_rng t13
  obtain ⟨t14, hk⟩ := List.forall_mem_cons.mp hk
  have t14 : tv_ok ta (0, 1, 1, []) (n_v vs 14) := t14
  have k14 : 1 ≤ v_iv (n_v vs 14) ∧ v_iv (n_v vs 14) ≤ 1 := tv_rng t14
  have hds : ∀ q ∈ ([(13, 10, 1, 1), (8, 4, 0, 4294967296), (4, 3, -4294967296, -1), (5, 3, -4294967296, -1), (6, 3, -4294967296, -1), (6, 4, -4294967296, 0), (6, 5, -4294967296, 0), (6, 8, -4294967296, 0), (8, 3, -4294967296, -1), (8, 4, -4294967296, 0)] : List of_T), n_iv vs q.2.1 + q.2.2.1 ≤ n_iv vs q.1 ∧ n_iv vs q.1 ≤ n_iv vs q.2.1 + q.2.2.2 := hds
  obtain ⟨d0, hds⟩ := List.forall_mem_cons.mp hds
  have d0 : v_iv (n_v vs 10) + 1 ≤ v_iv (n_v vs 13) ∧ v_iv (n_v vs 13) ≤ v_iv (n_v vs 10) + 1 := d0
  obtain ⟨d1, hds⟩ := List.forall_mem_cons.mp hds
  have d1 : v_iv (n_v vs 4) + 0 ≤ v_iv (n_v vs 8) ∧ v_iv (n_v vs 8) ≤ v_iv (n_v vs 4) + 4294967296 := d1
  obtain ⟨d2, hds⟩ := List.forall_mem_cons.mp hds
  have d2 : v_iv (n_v vs 3) + (-4294967296) ≤ v_iv (n_v vs 4) ∧ v_iv (n_v vs 4) ≤ v_iv (n_v vs 3) + (-1) := d2
  obtain ⟨d3, hds⟩ := List.forall_mem_cons.mp hds
  have d3 : v_iv (n_v vs 3) + (-4294967296) ≤ v_iv (n_v vs 5) ∧ v_iv (n_v vs 5) ≤ v_iv (n_v vs 3) + (-1) := d3
  obtain ⟨d4, hds⟩ := List.forall_mem_cons.mp hds
  have d4 : v_iv (n_v vs 3) + (-4294967296) ≤ v_iv (n_v vs 6) ∧ v_iv (n_v vs 6) ≤ v_iv (n_v vs 3) + (-1) := d4
  obtain ⟨d5, hds⟩ := List.forall_mem_cons.mp hds
  have d5 : v_iv (n_v vs 4) + (-4294967296) ≤ v_iv (n_v vs 6) ∧ v_iv (n_v vs 6) ≤ v_iv (n_v vs 4) + 0 := d5
  obtain ⟨d6, hds⟩ := List.forall_mem_cons.mp hds
  have d6 : v_iv (n_v vs 5) + (-4294967296) ≤ v_iv (n_v vs 6) ∧ v_iv (n_v vs 6) ≤ v_iv (n_v vs 5) + 0 := d6
  obtain ⟨d7, hds⟩ := List.forall_mem_cons.mp hds
  have d7 : v_iv (n_v vs 8) + (-4294967296) ≤ v_iv (n_v vs 6) ∧ v_iv (n_v vs 6) ≤ v_iv (n_v vs 8) + 0 := d7
  obtain ⟨d8, hds⟩ := List.forall_mem_cons.mp hds
  have d8 : v_iv (n_v vs 3) + (-4294967296) ≤ v_iv (n_v vs 8) ∧ v_iv (n_v vs 8) ≤ v_iv (n_v vs 3) + (-1) := d8
  obtain ⟨d9, hds⟩ := List.forall_mem_cons.mp hds
  have d9 : v_iv (n_v vs 4) + (-4294967296) ≤ v_iv (n_v vs 8) ∧ v_iv (n_v vs 8) ≤ v_iv (n_v vs 4) + 0 := d9
  have hf : fc_ok [(8, [14], [1]), (23, [5, 3], [-1, 1, -1]), (101, [0, 13], [27]), (1, [13, 10, 12], []), (9, [10, 0], [27]), (7, [10, 11], [1]), (7, [8, 4], [3]), (20, [0, 4, 6, 9], [30, -40000, -2, 1, 27, 1, 0, 0, 2, 0, 0, -1, 0, 0]), (23, [5, 3], [-1, 1, -1])] ta ws vs := hf
  obtain ⟨f0, hf⟩ := fc_un (show (8 : Nat) < 100 from by decide) hf
  have f0 : v_iv (n_v vs 14) ≠ 0 := f0
  obtain ⟨f1, hf⟩ := fc_un (show (23 : Nat) < 100 from by decide) hf
  have f1 : 1 * v_iv (n_v vs 5) + ((-1) * v_iv (n_v vs 3) + 0) ≤ (-1) := f1
  obtain ⟨ta1, w1, le1, ⟨_, s1⟩, hf⟩ := fc_us (show ¬ (101 : Nat) < 100 from by decide) hf
  have s1 : (∀ b j, w_el ws b j = w_el w1 b j) ∧ ∀ b j, w_fd ws b j = if b = v_ad (n_v vs 0) ∧ j = 27 then n_v vs 13 else w_fd w1 b j := s1
  obtain ⟨f3, hf⟩ := fc_un (show (1 : Nat) < 100 from by decide) hf
  have f3 : v_iv (n_v vs 13) = v_iv (n_v vs 10) + v_iv (n_v vs 12) := f3
  obtain ⟨f4, hf⟩ := fc_un (show (9 : Nat) < 100 from by decide) hf
  have f4 : n_v vs 10 = w_fd w1 (v_ad (n_v vs 0)) 27 := f4
  obtain ⟨f5, hf⟩ := fc_un (show (7 : Nat) < 100 from by decide) hf
  have f5 : v_iv (n_v vs 10) ≠ v_iv (n_v vs 11) := f5
  obtain ⟨f6, hf⟩ := fc_un (show (7 : Nat) < 100 from by decide) hf
  have f6 : v_iv (n_v vs 4) ≤ v_iv (n_v vs 8) := f6
  obtain ⟨f7, hf⟩ := fc_un (show (20 : Nat) < 100 from by decide) hf
  have f7 : (-2) * w_fi w1 (n_v vs 0) 27 + (1 * v_iv (n_v vs 4) + (2 * v_iv (n_v vs 6) + ((-1) * v_iv (n_v vs 9) + 0))) ≤ (-40000) := f7
  obtain ⟨f8, hf⟩ := fc_un (show (23 : Nat) < 100 from by decide) hf
  have f8 : 1 * v_iv (n_v vs 5) + ((-1) * v_iv (n_v vs 3) + 0) ≤ (-1) := f8
  have g4 : v_iv (n_v vs 10) = w_fi w1 (n_v vs 0) 27 := congrArg v_iv f4
  have fe_0_27_1 : w_fi ws (n_v vs 0) 27 = v_iv (n_v vs 13) := by show v_iv (w_fd _ _ _) = _; rw [s1.2, if_pos ⟨rfl, rfl⟩]
  have kz_0_27 : 0 ≤ w_fi ws (n_v vs 0) 27 ∧ w_fi ws (n_v vs 0) 27 ≤ 20000 := tv_rng (th_fd hD hth r0 (g := GG_150) rfl (k := 27) (t := (0, 0, 20000, [])) rfl rfl)
  obtain ⟨x, ex, hx⟩ := iv_ex (ta := ta) (lo := (-1)) (hi := 40100) (z := 0 + (1 * v_iv (n_v vs 9) + 0)) (by omega) (by omega) (by omega) (by omega)
  have ex2 : v_iv (Value.int x) = 0 + (1 * v_iv (n_v vs 9) + 0) := ex
  have ex3 : (-1) ≤ v_iv (Value.int x) ∧ v_iv (Value.int x) ≤ 40100 := tv_rng hx
  have e_0 : n_v (vs ++ [Value.int x]) 0 = n_v vs 0 := n_v_old (by rw [hl]; decide)
  have e_3 : n_v (vs ++ [Value.int x]) 3 = n_v vs 3 := n_v_old (by rw [hl]; decide)
  have e_4 : n_v (vs ++ [Value.int x]) 4 = n_v vs 4 := n_v_old (by rw [hl]; decide)
  have e_5 : n_v (vs ++ [Value.int x]) 5 = n_v vs 5 := n_v_old (by rw [hl]; decide)
  have e_14 : n_v (vs ++ [Value.int x]) 14 = n_v vs 14 := n_v_old (by rw [hl]; decide)
  have e_15 : n_v (vs ++ [Value.int x]) 15 = Value.int x := n_v_new hl
  have nf0 : fc_1 (20, [0, 4, 14, 15], [30, -40000, -2, 1, 27, 1, 0, 0, 2, 0, 0, -1, 0, 0]) ws (vs ++ [Value.int x]) := by
    refine ⟨fun n hn => ?_, ?_⟩
    · have hn : n ∈ [0, 4, 14, 15] := hn
      rw [List.length_append, hl]
      simp only [List.mem_cons, List.not_mem_nil, or_false] at hn
      show n < 15 + 1; omega
    · show (-2) * w_fi ws (n_v (vs ++ [Value.int x]) 0) 27 + (1 * v_iv (n_v (vs ++ [Value.int x]) 4) + (2 * v_iv (n_v (vs ++ [Value.int x]) 14) + ((-1) * v_iv (n_v (vs ++ [Value.int x]) 15) + 0))) ≤ (-40000)
      rw [e_0]
      rw [e_4]
      rw [e_14]
      rw [e_15]
      omega
  have nf1 : fc_1 (23, [5, 3, 14], [24, 1, -1, 25]) ws (vs ++ [Value.int x]) := by
    refine ⟨fun n hn => ?_, ?_⟩
    · have hn : n ∈ [5, 3, 14] := hn
      rw [List.length_append, hl]
      simp only [List.mem_cons, List.not_mem_nil, or_false] at hn
      show n < 15 + 1; omega
    · show 1 * v_iv (n_v (vs ++ [Value.int x]) 5) + ((-1) * v_iv (n_v (vs ++ [Value.int x]) 3) + (25 * v_iv (n_v (vs ++ [Value.int x]) 14) + 0)) ≤ 24
      rw [e_3]
      rw [e_5]
      rw [e_14]
      omega
  obtain ⟨x0, e0, _, _⟩ := tv_int t9 rfl
  have e1 : v_iv (n_v vs 9) = x0.toInt := by rw [e0]; rfl
  have ho : sy_ofs (vs ++ [Value.int x]) (15, 9, 0, 0) := by
    refine ⟨x, x0, by rw [List.getElem?_append_right (by rw [hl]; decide), hl]; rfl, ?_, ?_, ?_⟩
    · rw [List.getElem?_append_left (by rw [hl]; decide)]; exact n_v_some (by rw [hl]; decide) e0
    · show x0.toInt + 0 ≤ x.toInt; omega
    · show x.toInt ≤ x0.toInt + 0; omega
  exact ⟨(fun _ h => (by cases h)), [Value.int x], ag_one hx, List.forall_mem_cons.mpr ⟨⟨show (20 : Nat) < 100 from by decide, nf0⟩, List.forall_mem_cons.mpr ⟨⟨show (23 : Nat) < 100 from by decide, nf1⟩, (fun _ h => (by cases h))⟩⟩, List.forall_mem_cons.mpr ⟨ho, (fun _ h => (by cases h))⟩⟩
def o_Mo_same_9 : or_T := (155, 16, [(0, (2, 0, 0, [150])), (3, (0, 1, 24, [])), (4, (0, 0, 23, [])), (5, (0, 0, 23, [])), (6, (0, 0, 0, [])), (8, (0, 0, 23, [])), (9, (0, -1, 40100, [])), (10, (0, 0, 19999, [])), (11, (0, 20000, 20000, [])), (12, (0, 1, 1, [])), (13, (0, 1, 20000, [])), (14, (0, 0, 0, [])), (15, (0, 1, 24, []))], [(6, [15, 5], [1]), (8, [14], [0]), (23, [5, 3], [-1, 1, -1]), (101, [0, 13], [27]), (1, [13, 10, 12], []), (9, [10, 0], [27]), (7, [10, 11], [1]), (7, [8, 4], [3]), (20, [0, 4, 6, 9], [30, -40000, -2, 1, 27, 1, 0, 0, 2, 0, 0, -1, 0, 0]), (23, [5, 3], [-1, 1, -1])], [], [(0, -1, 40100, [])], [(20, [0, 4, 14, 16], [30, -40000, -2, 1, 27, 1, 0, 0, 2, 0, 0, -1, 0, 0]), (23, [15, 3, 14], [24, 1, -1, 25])], [(16, 9, 0, 0)], [(15, 5, 1, 1), (15, 3, -4294967296, 0), (13, 10, 1, 1), (8, 4, 0, 4294967296), (4, 3, -4294967296, -1), (5, 3, -4294967296, -1), (6, 3, -4294967296, -1), (6, 4, -4294967296, 0), (6, 5, -4294967296, 0), (6, 8, -4294967296, 0), (8, 3, -4294967296, -1), (8, 4, -4294967296, 0)])
theorem oo_Mo_same_9 {kA : Nat → ClassId} : or_ok kA GG o_Mo_same_9 := by
  intro A ta ws vs hD hth hl hk hds hf
  have hl : vs.length = 16 := hl
  have hk : ∀ q ∈ ([(0, (2, 0, 0, [150])), (3, (0, 1, 24, [])), (4, (0, 0, 23, [])), (5, (0, 0, 23, [])), (6, (0, 0, 0, [])), (8, (0, 0, 23, [])), (9, (0, -1, 40100, [])), (10, (0, 0, 19999, [])), (11, (0, 20000, 20000, [])), (12, (0, 1, 1, [])), (13, (0, 1, 20000, [])), (14, (0, 0, 0, [])), (15, (0, 1, 24, []))] : List (Nat × tv_T)), tv_ok ta q.2 (n_v vs q.1) := hk
  obtain ⟨t0, hk⟩ := List.forall_mem_cons.mp hk
  have t0 : tv_ok ta (2, 0, 0, [150]) (n_v vs 0) := t0
  have r0 : ta (v_ad (n_v vs 0)) = some 150 := tv_rg t0
  obtain ⟨t3, hk⟩ := List.forall_mem_cons.mp hk
  have t3 : tv_ok ta (0, 1, 24, []) (n_v vs 3) := t3
  have k3 : 1 ≤ v_iv (n_v vs 3) ∧ v_iv (n_v vs 3) ≤ 24 := tv_rng t3
  obtain ⟨t4, hk⟩ := List.forall_mem_cons.mp hk
  have t4 : tv_ok ta (0, 0, 23, []) (n_v vs 4) := t4
  have k4 : 0 ≤ v_iv (n_v vs 4) ∧ v_iv (n_v vs 4) ≤ 23 := tv_rng t4
  obtain ⟨t5, hk⟩ := List.forall_mem_cons.mp hk
  have t5 : tv_ok ta (0, 0, 23, []) (n_v vs 5) := t5
  have k5 : 0 ≤ v_iv (n_v vs 5) ∧ v_iv (n_v vs 5) ≤ 23 := tv_rng t5
  obtain ⟨t6, hk⟩ := List.forall_mem_cons.mp hk
  have t6 : tv_ok ta (0, 0, 0, []) (n_v vs 6) := t6
  have k6 : 0 ≤ v_iv (n_v vs 6) ∧ v_iv (n_v vs 6) ≤ 0 := tv_rng t6
  obtain ⟨t8, hk⟩ := List.forall_mem_cons.mp hk
  have t8 : tv_ok ta (0, 0, 23, []) (n_v vs 8) := t8
  have k8 : 0 ≤ v_iv (n_v vs 8) ∧ v_iv (n_v vs 8) ≤ 23 := tv_rng t8
  obtain ⟨t9, hk⟩ := List.forall_mem_cons.mp hk
  have t9 : tv_ok ta (0, -1, 40100, []) (n_v vs 9) := t9
  have k9 : (-1) ≤ v_iv (n_v vs 9) ∧ v_iv (n_v vs 9) ≤ 40100 := tv_rng t9
  obtain ⟨t10, hk⟩ := List.forall_mem_cons.mp hk
  have t10 : tv_ok ta (0, 0, 19999, []) (n_v vs 10) := t10
  have k10 : 0 ≤ v_iv (n_v vs 10) ∧ v_iv (n_v vs 10) ≤ 19999 := tv_rng t10
  obtain ⟨t11, hk⟩ := List.forall_mem_cons.mp hk
  have t11 : tv_ok ta (0, 20000, 20000, []) (n_v vs 11) := t11
  have k11 : 20000 ≤ v_iv (n_v vs 11) ∧ v_iv (n_v vs 11) ≤ 20000 := tv_rng t11
  obtain ⟨t12, hk⟩ := List.forall_mem_cons.mp hk
  have t12 : tv_ok ta (0, 1, 1, []) (n_v vs 12) := t12
  have k12 : 1 ≤ v_iv (n_v vs 12) ∧ v_iv (n_v vs 12) ≤ 1 := tv_rng t12
  obtain ⟨t13, hk⟩ := List.forall_mem_cons.mp hk
  have t13 : tv_ok ta (0, 1, 20000, []) (n_v vs 13) := t13
  have k13 : 1 ≤ v_iv (n_v vs 13) ∧ v_iv (n_v vs 13) ≤ 20000 := tv_rng t13
  obtain ⟨t14, hk⟩ := List.forall_mem_cons.mp hk
  have t14 : tv_ok ta (0, 0, 0, []) (n_v vs 14) := t14
  have k14 : 0 ≤ v_iv (n_v vs 14) ∧ v_iv (n_v vs 14) ≤ 0 := tv_rng t14
  obtain ⟨t15, hk⟩ := List.forall_mem_cons.mp hk
  have t15 : tv_ok ta (0, 1, 24, []) (n_v vs 15) := t15
  have k15 : 1 ≤ v_iv (n_v vs 15) ∧ v_iv (n_v vs 15) ≤ 24 := tv_rng t15
  have hds : ∀ q ∈ ([(15, 5, 1, 1), (15, 3, -4294967296, 0), (13, 10, 1, 1), (8, 4, 0, 4294967296), (4, 3, -4294967296, -1), (5, 3, -4294967296, -1), (6, 3, -4294967296, -1), (6, 4, -4294967296, 0), (6, 5, -4294967296, 0), (6, 8, -4294967296, 0), (8, 3, -4294967296, -1), (8, 4, -4294967296, 0)] : List of_T), n_iv vs q.2.1 + q.2.2.1 ≤ n_iv vs q.1 ∧ n_iv vs q.1 ≤ n_iv vs q.2.1 + q.2.2.2 := hds
  obtain ⟨d0, hds⟩ := List.forall_mem_cons.mp hds
  have d0 : v_iv (n_v vs 5) + 1 ≤ v_iv (n_v vs 15) ∧ v_iv (n_v vs 15) ≤ v_iv (n_v vs 5) + 1 := d0
  obtain ⟨d1, hds⟩ := List.forall_mem_cons.mp hds
  have d1 : v_iv (n_v vs 3) + (-4294967296) ≤ v_iv (n_v vs 15) ∧ v_iv (n_v vs 15) ≤ v_iv (n_v vs 3) + 0 := d1
  obtain ⟨d2, hds⟩ := List.forall_mem_cons.mp hds
  have d2 : v_iv (n_v vs 10) + 1 ≤ v_iv (n_v vs 13) ∧ v_iv (n_v vs 13) ≤ v_iv (n_v vs 10) + 1 := d2
  obtain ⟨d3, hds⟩ := List.forall_mem_cons.mp hds
  have d3 : v_iv (n_v vs 4) + 0 ≤ v_iv (n_v vs 8) ∧ v_iv (n_v vs 8) ≤ v_iv (n_v vs 4) + 4294967296 := d3
  obtain ⟨d4, hds⟩ := List.forall_mem_cons.mp hds
  have d4 : v_iv (n_v vs 3) + (-4294967296) ≤ v_iv (n_v vs 4) ∧ v_iv (n_v vs 4) ≤ v_iv (n_v vs 3) + (-1) := d4
  obtain ⟨d5, hds⟩ := List.forall_mem_cons.mp hds
  have d5 : v_iv (n_v vs 3) + (-4294967296) ≤ v_iv (n_v vs 5) ∧ v_iv (n_v vs 5) ≤ v_iv (n_v vs 3) + (-1) := d5
  obtain ⟨d6, hds⟩ := List.forall_mem_cons.mp hds
  have d6 : v_iv (n_v vs 3) + (-4294967296) ≤ v_iv (n_v vs 6) ∧ v_iv (n_v vs 6) ≤ v_iv (n_v vs 3) + (-1) := d6
  obtain ⟨d7, hds⟩ := List.forall_mem_cons.mp hds
  have d7 : v_iv (n_v vs 4) + (-4294967296) ≤ v_iv (n_v vs 6) ∧ v_iv (n_v vs 6) ≤ v_iv (n_v vs 4) + 0 := d7
  obtain ⟨d8, hds⟩ := List.forall_mem_cons.mp hds
  have d8 : v_iv (n_v vs 5) + (-4294967296) ≤ v_iv (n_v vs 6) ∧ v_iv (n_v vs 6) ≤ v_iv (n_v vs 5) + 0 := d8
  obtain ⟨d9, hds⟩ := List.forall_mem_cons.mp hds
  have d9 : v_iv (n_v vs 8) + (-4294967296) ≤ v_iv (n_v vs 6) ∧ v_iv (n_v vs 6) ≤ v_iv (n_v vs 8) + 0 := d9
  obtain ⟨d10, hds⟩ := List.forall_mem_cons.mp hds
  have d10 : v_iv (n_v vs 3) + (-4294967296) ≤ v_iv (n_v vs 8) ∧ v_iv (n_v vs 8) ≤ v_iv (n_v vs 3) + (-1) := d10
  obtain ⟨d11, hds⟩ := List.forall_mem_cons.mp hds
  have d11 : v_iv (n_v vs 4) + (-4294967296) ≤ v_iv (n_v vs 8) ∧ v_iv (n_v vs 8) ≤ v_iv (n_v vs 4) + 0 := d11
  have hf : fc_ok [(6, [15, 5], [1]), (8, [14], [0]), (23, [5, 3], [-1, 1, -1]), (101, [0, 13], [27]), (1, [13, 10, 12], []), (9, [10, 0], [27]), (7, [10, 11], [1]), (7, [8, 4], [3]), (20, [0, 4, 6, 9], [30, -40000, -2, 1, 27, 1, 0, 0, 2, 0, 0, -1, 0, 0]), (23, [5, 3], [-1, 1, -1])] ta ws vs := hf
  obtain ⟨f0, hf⟩ := fc_un (show (6 : Nat) < 100 from by decide) hf
  have f0 : v_iv (n_v vs 15) = v_iv (n_v vs 5) + 1 := f0
  obtain ⟨f1, hf⟩ := fc_un (show (8 : Nat) < 100 from by decide) hf
  have f1 : v_iv (n_v vs 14) = 0 := f1
  obtain ⟨f2, hf⟩ := fc_un (show (23 : Nat) < 100 from by decide) hf
  have f2 : 1 * v_iv (n_v vs 5) + ((-1) * v_iv (n_v vs 3) + 0) ≤ (-1) := f2
  obtain ⟨ta1, w1, le1, ⟨_, s1⟩, hf⟩ := fc_us (show ¬ (101 : Nat) < 100 from by decide) hf
  have s1 : (∀ b j, w_el ws b j = w_el w1 b j) ∧ ∀ b j, w_fd ws b j = if b = v_ad (n_v vs 0) ∧ j = 27 then n_v vs 13 else w_fd w1 b j := s1
  obtain ⟨f4, hf⟩ := fc_un (show (1 : Nat) < 100 from by decide) hf
  have f4 : v_iv (n_v vs 13) = v_iv (n_v vs 10) + v_iv (n_v vs 12) := f4
  obtain ⟨f5, hf⟩ := fc_un (show (9 : Nat) < 100 from by decide) hf
  have f5 : n_v vs 10 = w_fd w1 (v_ad (n_v vs 0)) 27 := f5
  obtain ⟨f6, hf⟩ := fc_un (show (7 : Nat) < 100 from by decide) hf
  have f6 : v_iv (n_v vs 10) ≠ v_iv (n_v vs 11) := f6
  obtain ⟨f7, hf⟩ := fc_un (show (7 : Nat) < 100 from by decide) hf
  have f7 : v_iv (n_v vs 4) ≤ v_iv (n_v vs 8) := f7
  obtain ⟨f8, hf⟩ := fc_un (show (20 : Nat) < 100 from by decide) hf
  have f8 : (-2) * w_fi w1 (n_v vs 0) 27 + (1 * v_iv (n_v vs 4) + (2 * v_iv (n_v vs 6) + ((-1) * v_iv (n_v vs 9) + 0))) ≤ (-40000) := f8
  obtain ⟨f9, hf⟩ := fc_un (show (23 : Nat) < 100 from by decide) hf
  have f9 : 1 * v_iv (n_v vs 5) + ((-1) * v_iv (n_v vs 3) + 0) ≤ (-1) := f9
  have g5 : v_iv (n_v vs 10) = w_fi w1 (n_v vs 0) 27 := congrArg v_iv f5
  have fe_0_27_1 : w_fi ws (n_v vs 0) 27 = v_iv (n_v vs 13) := by show v_iv (w_fd _ _ _) = _; rw [s1.2, if_pos ⟨rfl, rfl⟩]
  have kz_0_27 : 0 ≤ w_fi ws (n_v vs 0) 27 ∧ w_fi ws (n_v vs 0) 27 ≤ 20000 := tv_rng (th_fd hD hth r0 (g := GG_150) rfl (k := 27) (t := (0, 0, 20000, [])) rfl rfl)
  obtain ⟨x, ex, hx⟩ := iv_ex (ta := ta) (lo := (-1)) (hi := 40100) (z := 0 + (1 * v_iv (n_v vs 9) + 0)) (by omega) (by omega) (by omega) (by omega)
  have ex2 : v_iv (Value.int x) = 0 + (1 * v_iv (n_v vs 9) + 0) := ex
  have ex3 : (-1) ≤ v_iv (Value.int x) ∧ v_iv (Value.int x) ≤ 40100 := tv_rng hx
  have e_0 : n_v (vs ++ [Value.int x]) 0 = n_v vs 0 := n_v_old (by rw [hl]; decide)
  have e_3 : n_v (vs ++ [Value.int x]) 3 = n_v vs 3 := n_v_old (by rw [hl]; decide)
  have e_4 : n_v (vs ++ [Value.int x]) 4 = n_v vs 4 := n_v_old (by rw [hl]; decide)
  have e_14 : n_v (vs ++ [Value.int x]) 14 = n_v vs 14 := n_v_old (by rw [hl]; decide)
  have e_15 : n_v (vs ++ [Value.int x]) 15 = n_v vs 15 := n_v_old (by rw [hl]; decide)
  have e_16 : n_v (vs ++ [Value.int x]) 16 = Value.int x := n_v_new hl
  have nf0 : fc_1 (20, [0, 4, 14, 16], [30, -40000, -2, 1, 27, 1, 0, 0, 2, 0, 0, -1, 0, 0]) ws (vs ++ [Value.int x]) := by
    refine ⟨fun n hn => ?_, ?_⟩
    · have hn : n ∈ [0, 4, 14, 16] := hn
      rw [List.length_append, hl]
      simp only [List.mem_cons, List.not_mem_nil, or_false] at hn
      show n < 16 + 1; omega
    · show (-2) * w_fi ws (n_v (vs ++ [Value.int x]) 0) 27 + (1 * v_iv (n_v (vs ++ [Value.int x]) 4) + (2 * v_iv (n_v (vs ++ [Value.int x]) 14) + ((-1) * v_iv (n_v (vs ++ [Value.int x]) 16) + 0))) ≤ (-40000)
      rw [e_0]
      rw [e_4]
      rw [e_14]
      rw [e_16]
      omega
  have nf1 : fc_1 (23, [15, 3, 14], [24, 1, -1, 25]) ws (vs ++ [Value.int x]) := by
    refine ⟨fun n hn => ?_, ?_⟩
    · have hn : n ∈ [15, 3, 14] := hn
      rw [List.length_append, hl]
      simp only [List.mem_cons, List.not_mem_nil, or_false] at hn
      show n < 16 + 1; omega
    · show 1 * v_iv (n_v (vs ++ [Value.int x]) 15) + ((-1) * v_iv (n_v (vs ++ [Value.int x]) 3) + (25 * v_iv (n_v (vs ++ [Value.int x]) 14) + 0)) ≤ 24
      rw [e_3]
      rw [e_14]
      rw [e_15]
      omega
  obtain ⟨x0, e0, _, _⟩ := tv_int t9 rfl
  have e1 : v_iv (n_v vs 9) = x0.toInt := by rw [e0]; rfl
  have ho : sy_ofs (vs ++ [Value.int x]) (16, 9, 0, 0) := by
    refine ⟨x, x0, by rw [List.getElem?_append_right (by rw [hl]; decide), hl]; rfl, ?_, ?_, ?_⟩
    · rw [List.getElem?_append_left (by rw [hl]; decide)]; exact n_v_some (by rw [hl]; decide) e0
    · show x0.toInt + 0 ≤ x.toInt; omega
    · show x.toInt ≤ x0.toInt + 0; omega
  exact ⟨(fun _ h => (by cases h)), [Value.int x], ag_one hx, List.forall_mem_cons.mpr ⟨⟨show (20 : Nat) < 100 from by decide, nf0⟩, List.forall_mem_cons.mpr ⟨⟨show (23 : Nat) < 100 from by decide, nf1⟩, (fun _ h => (by cases h))⟩⟩, List.forall_mem_cons.mpr ⟨ho, (fun _ h => (by cases h))⟩⟩
def n_Mo_same_an : List an_T := [(110, [(0, (2, 0, 0, [150])), (1, (0, 0, 3, [])), (2, (0, 0, 3, [])), (3, (0, 0, 24, [])), (4, (0, 0, 0, [])), (5, (0, 0, 24, []))], [], (0, 0), [(0, 0, 99890), (1, 5, 24), (0, 0, 100000), (0, 0, 0), (0, 0, 0), (0, 0, 0), (0, 0, 0), (0, 0, 0)], [(1, 2, -1000000000000, 3), (1, 3, -1000000000000, 3), (1, 4, -1000000000000, 3), (1, 5, -1000000000000, 3), (2, 1, -1000000000000, 3), (2, 3, -1000000000000, 3), (2, 4, -1000000000000, 3), (2, 5, -1000000000000, 3), (3, 1, -1000000000000, 24), (3, 2, -1000000000000, 24), (3, 4, -1000000000000, 24), (3, 5, -1000000000000, 24), (4, 1, -1000000000000, 0), (4, 2, -1000000000000, 0), (4, 3, -1000000000000, 0), (4, 5, -1000000000000, 0), (5, 3, -1000000000000, 0)], [], [], 0, [], []), (130, [(0, (2, 0, 0, [150])), (1, (0, 0, 3, [])), (2, (0, 0, 3, [])), (3, (0, 0, 24, [])), (4, (0, -1, 24, [])), (5, (0, 0, 24, []))], [], (0, 0), [(0, 0, 99870), (2, 7, -1), (0, 0, 100000), (0, 0, 0), (0, 0, 0), (0, 0, 0), (0, 0, 0), (0, 0, 0)], [(1, 2, -1000000000000, 3), (1, 3, -1000000000000, 3), (1, 4, -1000000000000, 4), (1, 5, -1000000000000, 3), (1, 6, -1000000000000, 3), (2, 1, -1000000000000, 3), (2, 3, -1000000000000, 3), (2, 4, -1000000000000, 4), (2, 5, -1000000000000, 3), (2, 6, -1000000000000, 3), (4, 3, -1000000000000, 0), (5, 3, -1000000000000, 23), (6, 1, -1000000000000, 20000), (6, 2, -1000000000000, 20000), (6, 3, -1000000000000, 20000), (6, 4, -1000000000000, 20001), (6, 5, -1000000000000, 20000)], [((0, 27), (0, 0, 20000, []))], [], 0, [(0, -1, 40100, [])], [(20, [7, 0, 4], [30, 40000, 1, 0, 0, 2, 1, 27, -1, 0, 0]), (20, [7, 0, 4], [30, -40000, -1, 0, 0, -2, 1, 27, 1, 0, 0])]), (155, [(0, (2, 0, 0, [150])), (1, (0, 0, 3, [])), (2, (0, 0, 3, [])), (3, (0, 1, 24, [])), (4, (0, 0, 23, [])), (5, (0, 0, 24, [])), (6, (0, 0, 1, []))], [], (0, 0), [(0, 0, 99870), (2, 8, -1), (0, 0, 99845), (1, 5, 24), (1, 6, 1), (0, 0, 100000), (0, 0, 0), (0, 0, 0)], [(1, 2, -1000000000000, 3), (1, 3, -1000000000000, 2), (1, 4, -1000000000000, 3), (1, 5, -1000000000000, 3), (1, 6, -1000000000000, 3), (1, 7, -1000000000000, 3), (2, 1, -1000000000000, 3), (2, 3, -1000000000000, 2), (2, 4, -1000000000000, 3), (2, 5, -1000000000000, 3), (2, 6, -1000000000000, 3), (2, 7, -1000000000000, 3), (4, 3, -1000000000000, -1), (5, 1, -1000000000000, 24), (5, 2, -1000000000000, 24), (5, 3, -1000000000000, 23), (5, 4, -1000000000000, 24), (5, 6, -1000000000000, 24), (5, 7, -1000000000000, 24), (6, 1, -1000000000000, 1), (6, 2, -1000000000000, 1), (6, 3, -1000000000000, 0), (6, 4, -1000000000000, 1), (6, 5, -1000000000000, 1), (6, 7, -1000000000000, 0), (7, 1, -1000000000000, 20000), (7, 2, -1000000000000, 20000), (7, 3, -1000000000000, 19999), (7, 4, -1000000000000, 20000), (7, 5, -1000000000000, 20000), (7, 6, -1000000000000, 20000)], [((0, 27), (0, 0, 20000, []))], [], 0, [(0, -1, 40100, [])], [(20, [0, 4, 6, 8], [30, -40000, -2, 1, 27, 1, 0, 0, 2, 0, 0, -1, 0, 0]), (23, [5, 3, 6], [24, 1, -1, 25])]), (172, [(0, (2, 0, 0, [150])), (1, (0, 0, 3, [])), (2, (0, 0, 3, [])), (3, (0, 1, 24, [])), (4, (0, 0, 23, [])), (5, (0, 0, 23, [])), (6, (0, 0, 0, [])), (7, (0, 0, 1, [])), (8, (0, 0, 23, []))], [], (0, 0), [(0, 0, 99870), (2, 9, -1), (0, 0, 99845), (1, 5, 24), (1, 6, 1), (0, 0, 99828), (1, 8, 23), (0, 0, 100000)], [(1, 2, -1000000000000, 3), (1, 3, -1000000000000, 2), (1, 4, -1000000000000, 3), (1, 5, -1000000000000, 3), (1, 6, -1000000000000, 3), (1, 7, -1000000000000, 3), (1, 8, -1000000000000, 3), (2, 1, -1000000000000, 3), (2, 3, -1000000000000, 2), (2, 4, -1000000000000, 3), (2, 5, -1000000000000, 3), (2, 6, -1000000000000, 3), (2, 7, -1000000000000, 3), (2, 8, -1000000000000, 3), (4, 3, -1000000000000, -1), (5, 3, -1000000000000, -1), (6, 1, -1000000000000, 0), (6, 2, -1000000000000, 0), (6, 3, -1000000000000, -1), (6, 4, -1000000000000, 0), (6, 5, -1000000000000, 0), (6, 7, -1000000000000, 0), (6, 8, -1000000000000, 0), (7, 1, -1000000000000, 1), (7, 2, -1000000000000, 1), (7, 3, -1000000000000, -1), (7, 4, -1000000000000, 0), (7, 5, -1000000000000, 1), (7, 6, -1000000000000, 1), (7, 8, -1000000000000, 0), (8, 3, -1000000000000, -1), (8, 4, -1000000000000, 0)], [], [], 0, [(0, -1, 40100, [])], [(20, [0, 4, 6, 9], [30, -40000, -2, 1, 27, 1, 0, 0, 2, 0, 0, -1, 0, 0]), (23, [5, 3], [-1, 1, -1])]), (314, [(0, (2, 0, 0, [150])), (1, (0, 0, 3, [])), (2, (0, 0, 3, [])), (3, (0, 0, 24, [])), (4, (0, 0, 24, [])), (5, (0, 0, 24, []))], [], (0, 0), [(0, 0, 99686), (1, 5, 24), (0, 0, 100000), (0, 0, 0), (0, 0, 0), (0, 0, 0), (0, 0, 0), (0, 0, 0)], [(1, 2, -1000000000000, 3), (1, 3, -1000000000000, 3), (1, 4, -1000000000000, 3), (1, 5, -1000000000000, 3), (2, 1, -1000000000000, 3), (2, 3, -1000000000000, 3), (2, 4, -1000000000000, 3), (2, 5, -1000000000000, 3), (3, 4, -1000000000000, 0), (4, 3, -1000000000000, 0), (5, 3, -1000000000000, 0), (5, 4, -1000000000000, 0)], [], [], 0, [], [])]
def t_Mo_same_ct : ct_L := [(0, 372, e_Mo_rowOf), (0, 521, e_Mo_isPlace), (1, 578, e_Mo_fits)]
set_option maxRecDepth 100000 in
theorem c_Mo_same {l : Launch} {D : va_G} {kA : Nat → ClassId} (h_Mo_fits : ct_ok l D kA GG y_Mo_fits z_Mo_fits e_Mo_fits) (h_Mo_isPlace : ct_ok l D kA GG y_Mo_isPlace z_Mo_isPlace e_Mo_isPlace) (h_Mo_rowOf : ct_ok l D kA GG y_Mo_rowOf z_Mo_rowOf e_Mo_rowOf) : ct_ok l D kA GG y_Mo_same z_Mo_same e_Mo_same := chk_all_ok (FT := [(16, 13, 2), (20, 13, 3), (51, 13, 23), (54, 13, 24), (566, 13, 28), (569, 13, 29), (572, 13, 27)]) (PT := [(566, 13, 28, .int), (569, 13, 29, .int), (572, 13, 27, .int), (575, 13, 30, .boolean), (581, 13, 25, .boolean), (584, 13, 26, .int)]) (CT := t_Mo_same_ct) (KT := []) (NT := []) (AN := n_Mo_same_an) (OT := [o_Mo_same_0, o_Mo_same_1, o_Mo_same_2, o_Mo_same_3, o_Mo_same_4, o_Mo_same_5, o_Mo_same_6, o_Mo_same_7, o_Mo_same_8, o_Mo_same_9]) 8 928 (List.forall_mem_cons.mpr ⟨oo_Mo_same_0, List.forall_mem_cons.mpr ⟨oo_Mo_same_1, List.forall_mem_cons.mpr ⟨oo_Mo_same_2, List.forall_mem_cons.mpr ⟨oo_Mo_same_3, List.forall_mem_cons.mpr ⟨oo_Mo_same_4, List.forall_mem_cons.mpr ⟨oo_Mo_same_5, List.forall_mem_cons.mpr ⟨oo_Mo_same_6, List.forall_mem_cons.mpr ⟨oo_Mo_same_7, List.forall_mem_cons.mpr ⟨oo_Mo_same_8, List.forall_mem_cons.mpr ⟨oo_Mo_same_9, List.forall_mem_nil _⟩⟩⟩⟩⟩⟩⟩⟩⟩⟩) (by decide +kernel) ⟨List.forall_mem_cons.mpr ⟨gf_Mo_16, List.forall_mem_cons.mpr ⟨gf_Mo_20, List.forall_mem_cons.mpr ⟨gf_Mo_51, List.forall_mem_cons.mpr ⟨gf_Mo_54, List.forall_mem_cons.mpr ⟨gf_Mo_566, List.forall_mem_cons.mpr ⟨gf_Mo_569, List.forall_mem_cons.mpr ⟨gf_Mo_572, List.forall_mem_nil _⟩⟩⟩⟩⟩⟩⟩, List.forall_mem_cons.mpr ⟨pf_Mo_566, List.forall_mem_cons.mpr ⟨pf_Mo_569, List.forall_mem_cons.mpr ⟨pf_Mo_572, List.forall_mem_cons.mpr ⟨pf_Mo_575, List.forall_mem_cons.mpr ⟨pf_Mo_581, List.forall_mem_cons.mpr ⟨pf_Mo_584, List.forall_mem_nil _⟩⟩⟩⟩⟩⟩, List.forall_mem_cons.mpr ⟨cl_static (y := y_Mo_rowOf) h_Mo_rowOf wm_2420 wm_9 wm_2418 wm_2419 ⟨by decide, by decide, by decide +kernel⟩ (by decide), List.forall_mem_cons.mpr ⟨cl_static (y := y_Mo_isPlace) h_Mo_isPlace wm_2978 wm_9 wm_2976 wm_2977 ⟨by decide, by decide, by decide +kernel⟩ (by decide), List.forall_mem_cons.mpr ⟨cl_virtual (y := y_Mo_fits) (ci := 13) rfl rfl ⟨_, _, rfl⟩ (by decide +kernel) h_Mo_fits wm_3123 wm_9 wm_3120 wm_3122 wv_14_8 ⟨by decide, by decide, by decide +kernel⟩ (by decide), List.forall_mem_nil _⟩⟩⟩, List.forall_mem_nil _, List.forall_mem_nil _, GG_pl⟩ (by decide +kernel)
def n_Mo_shade_an : List an_T := []
def t_Mo_shade_ct : ct_L := [(0, 387, e_Mo_in), (0, 521, e_Mo_isPlace), (1, 401, e_Mo_edges), (1, 475, e_Mo_nodes), (1, 527, e_Mo_take)]
set_option maxRecDepth 100000 in
theorem c_Mo_shade {l : Launch} {D : va_G} {kA : Nat → ClassId} (h_Mo_edges : ct_ok l D kA GG y_Mo_edges z_Mo_edges e_Mo_edges) (h_Mo_in : ct_ok l D kA GG y_Mo_in z_Mo_in e_Mo_in) (h_Mo_isPlace : ct_ok l D kA GG y_Mo_isPlace z_Mo_isPlace e_Mo_isPlace) (h_Mo_nodes : ct_ok l D kA GG y_Mo_nodes z_Mo_nodes e_Mo_nodes) (h_Mo_take : ct_ok l D kA GG y_Mo_take z_Mo_take e_Mo_take) : ct_ok l D kA GG y_Mo_shade z_Mo_shade e_Mo_shade := chk_all_ok (FT := [(156, 13, 73)]) (PT := []) (CT := t_Mo_shade_ct) (KT := []) (NT := []) (AN := n_Mo_shade_an) (OT := []) 0 396 (List.forall_mem_nil _) (by decide +kernel) ⟨List.forall_mem_cons.mpr ⟨gf_Mo_156, List.forall_mem_nil _⟩, List.forall_mem_nil _, List.forall_mem_cons.mpr ⟨cl_static (y := y_Mo_in) h_Mo_in wm_2971 wm_9 wm_2969 wm_2970 ⟨by decide, by decide, by decide +kernel⟩ (by decide), List.forall_mem_cons.mpr ⟨cl_static (y := y_Mo_isPlace) h_Mo_isPlace wm_2978 wm_9 wm_2976 wm_2977 ⟨by decide, by decide, by decide +kernel⟩ (by decide), List.forall_mem_cons.mpr ⟨cl_virtual (y := y_Mo_edges) (ci := 13) rfl rfl ⟨_, _, rfl⟩ (by decide +kernel) h_Mo_edges wm_3037 wm_9 wm_3034 wm_3036 wv_13_6 ⟨by decide, by decide, by decide +kernel⟩ (by decide), List.forall_mem_cons.mpr ⟨cl_virtual (y := y_Mo_nodes) (ci := 13) rfl rfl ⟨_, _, rfl⟩ (by decide +kernel) h_Mo_nodes wm_3025 wm_9 wm_3022 wm_3024 wv_13_3 ⟨by decide, by decide, by decide +kernel⟩ (by decide), List.forall_mem_cons.mpr ⟨cl_virtual (y := y_Mo_take) (ci := 13) rfl rfl ⟨_, _, rfl⟩ (by decide +kernel) h_Mo_take wm_3091 wm_9 wm_3088 wm_3090 wv_14_2 ⟨by decide, by decide, by decide +kernel⟩ (by decide), List.forall_mem_nil _⟩⟩⟩⟩⟩, List.forall_mem_nil _, List.forall_mem_nil _, GG_pl⟩ (by decide +kernel)
def n_Mo_strong_an : List an_T := [(9, [(0, (2, 0, 0, [150])), (1, (0, 0, 1, [])), (2, (0, 0, 0, [])), (3, (0, 0, 24, []))], [], (0, 0), [(0, 0, 99991), (1, 3, 24), (0, 0, 100000), (0, 0, 0), (0, 0, 0)], [(1, 2, -1000000000000, 1), (1, 3, -1000000000000, 1), (2, 1, -1000000000000, 0), (2, 3, -1000000000000, 0)], [], [], 0, [], []), (32, [(0, (2, 0, 0, [150])), (1, (0, 0, 1, [])), (2, (0, 0, 24, [])), (3, (0, 0, 24, []))], [], (0, 0), [(0, 0, 99968), (1, 3, 24), (0, 0, 100000), (0, 0, 0), (0, 0, 0)], [(1, 2, -1000000000000, 1), (1, 3, -1000000000000, 1), (2, 3, -1000000000000, 0)], [], [], 0, [], []), (55, [(0, (2, 0, 0, [150])), (1, (0, 0, 1, [])), (2, (0, 0, 23, [])), (3, (0, 0, 23, [])), (4, (0, 0, 24, []))], [], (0, 0), [(0, 0, 99968), (1, 3, 24), (0, 0, 99945), (1, 4, 24), (0, 0, 100000)], [(1, 2, -1000000000000, 1), (1, 3, -1000000000000, 1), (1, 4, -1000000000000, 1), (2, 3, -1000000000000, 0), (2, 4, -1000000000000, 0), (3, 4, -1000000000000, 0)], [], [], 0, [], [])]
def t_Mo_strong_ct : ct_L := [(1, 475, e_Mo_nodes), (1, 556, e_Mo_reaching)]
set_option maxRecDepth 100000 in
theorem c_Mo_strong {l : Launch} {D : va_G} {kA : Nat → ClassId} (h_Mo_nodes : ct_ok l D kA GG y_Mo_nodes z_Mo_nodes e_Mo_nodes) (h_Mo_reaching : ct_ok l D kA GG y_Mo_reaching z_Mo_reaching e_Mo_reaching) : ct_ok l D kA GG y_Mo_strong z_Mo_strong e_Mo_strong := chk_all_ok (FT := [(35, 13, 18), (44, 13, 21)]) (PT := []) (CT := t_Mo_strong_ct) (KT := []) (NT := []) (AN := n_Mo_strong_an) (OT := []) 5 288 (List.forall_mem_nil _) (by decide +kernel) ⟨List.forall_mem_cons.mpr ⟨gf_Mo_35, List.forall_mem_cons.mpr ⟨gf_Mo_44, List.forall_mem_nil _⟩⟩, List.forall_mem_nil _, List.forall_mem_cons.mpr ⟨cl_virtual (y := y_Mo_nodes) (ci := 13) rfl rfl ⟨_, _, rfl⟩ (by decide +kernel) h_Mo_nodes wm_3025 wm_9 wm_3022 wm_3024 wv_13_3 ⟨by decide, by decide, by decide +kernel⟩ (by decide), List.forall_mem_cons.mpr ⟨cl_virtual (y := y_Mo_reaching) (ci := 13) rfl rfl ⟨_, _, rfl⟩ (by decide +kernel) h_Mo_reaching wm_3295 wm_9 wm_3292 wm_3294 wv_16_14 ⟨by decide, by decide, by decide +kernel⟩ (by decide), List.forall_mem_nil _⟩⟩, List.forall_mem_nil _, List.forall_mem_nil _, GG_pl⟩ (by decide +kernel)
def n_Ho_told_an : List an_T := []
def t_Ho_told_ct : ct_L := [(0, 115, e_Ho_isPlace), (1, 316, e_Dr_report)]
set_option maxRecDepth 100000 in
theorem c_Ho_told {l : Launch} {D : va_G} {kA : Nat → ClassId} (h_Dr_report : ct_ok l D kA GG y_Dr_report z_Dr_report e_Dr_report) (h_Ho_isPlace : ct_ok l D kA GG y_Ho_isPlace z_Ho_isPlace e_Ho_isPlace) : ct_ok l D kA GG y_Ho_told z_Ho_told e_Ho_told := chk_all_ok (FT := [(31, 12, 3)]) (PT := []) (CT := t_Ho_told_ct) (KT := []) (NT := []) (AN := n_Ho_told_an) (OT := []) 0 200 (List.forall_mem_nil _) (by decide +kernel) ⟨List.forall_mem_cons.mpr ⟨gf_Ho_31, List.forall_mem_nil _⟩, List.forall_mem_nil _, List.forall_mem_cons.mpr ⟨cl_static (y := y_Ho_isPlace) h_Ho_isPlace wm_633 wm_1 wm_631 wm_632 ⟨by decide, by decide, by decide +kernel⟩ (by decide), List.forall_mem_cons.mpr ⟨cl_virtual (y := y_Dr_report) (ci := 0) rfl rfl ⟨_, _, rfl⟩ (by decide +kernel) h_Dr_report wm_1832 wm_8 wm_1829 wm_1830 wm_1831 ⟨by decide, by decide, by decide +kernel⟩ (by decide), List.forall_mem_nil _⟩⟩, List.forall_mem_nil _, List.forall_mem_nil _, GG_pl⟩ (by decide +kernel)
def n_Dr_clash_an : List an_T := [(80, [(0, (2, 0, 0, [0])), (1, (0, 0, 47, [])), (2, (0, 0, 24, [])), (3, (0, 1, 47, [])), (4, (0, 0, 24, [])), (5, (0, -1, 23, [])), (6, (0, -2147483648, 2147483647, [])), (7, (0, -2147483648, 2147483647, []))], [], (0, 0), [(0, 0, 99920)], [], [], [], 0, [], []), (190, [(0, (2, 0, 0, [0])), (1, (0, 0, 47, [])), (2, (0, 0, 24, [])), (3, (0, 1, 47, [])), (4, (0, 0, 24, [])), (5, (0, -1, 23, [])), (6, (0, 0, 2147483647, [])), (7, (0, 0, 2147483647, [])), (8, (1, -9223372036854775808, 9223372036854775807, [])), (10, (1, -9223372036854775808, 9223372036854775807, [])), (12, (1, -9223372036854775808, 9223372036854775807, [])), (14, (1, -9223372036854775808, 9223372036854775807, []))], [], (0, 0), [(0, 0, 99810)], [], [], [], 0, [], []), (204, [(0, (2, 0, 0, [0])), (1, (0, 0, 47, [])), (2, (0, 0, 24, [])), (3, (0, 1, 47, [])), (4, (0, 0, 24, [])), (5, (0, -1, 23, [])), (6, (0, 0, 2147483647, [])), (7, (0, 0, 2147483647, [])), (8, (1, -9223372036854775808, 9223372036854775807, [])), (10, (1, -9223372036854775808, 9223372036854775807, [])), (12, (1, -9223372036854775808, 9223372036854775807, [])), (14, (1, -9223372036854775808, 9223372036854775807, []))], [], (0, 0), [(0, 0, 99796)], [], [], [], 0, [], []), (218, [(0, (2, 0, 0, [0])), (1, (0, 0, 47, [])), (2, (0, 0, 24, [])), (3, (0, 1, 47, [])), (4, (0, 0, 24, [])), (5, (0, -1, 23, [])), (6, (0, 0, 2147483647, [])), (7, (0, 0, 2147483647, [])), (8, (1, -9223372036854775808, 9223372036854775807, [])), (10, (1, -9223372036854775808, 9223372036854775807, [])), (12, (1, -9223372036854775808, 9223372036854775807, [])), (14, (1, -9223372036854775808, 9223372036854775807, []))], [], (0, 0), [(0, 0, 99782)], [], [], [], 0, [], []), (232, [(0, (2, 0, 0, [0])), (1, (0, 0, 47, [])), (2, (0, 0, 24, [])), (3, (0, 1, 47, [])), (4, (0, 0, 24, [])), (5, (0, -1, 23, [])), (6, (0, 0, 2147483647, [])), (7, (0, 0, 2147483647, [])), (8, (1, -9223372036854775808, 9223372036854775807, [])), (10, (1, -9223372036854775808, 9223372036854775807, [])), (12, (1, -9223372036854775808, 9223372036854775807, [])), (14, (1, -9223372036854775808, 9223372036854775807, []))], [], (0, 0), [(0, 0, 99768)], [], [], [], 0, [], []), (234, [(0, (2, 0, 0, [0])), (1, (0, 0, 47, [])), (2, (0, 0, 24, [])), (3, (0, 1, 47, [])), (4, (0, 0, 24, [])), (5, (0, -1, 23, [])), (6, (0, 0, 2147483647, [])), (7, (0, 0, 2147483647, [])), (8, (1, -9223372036854775808, 9223372036854775807, [])), (10, (1, -9223372036854775808, 9223372036854775807, [])), (12, (1, -9223372036854775808, 9223372036854775807, [])), (14, (1, -9223372036854775808, 9223372036854775807, []))], [], (0, 0), [(0, 0, 99766)], [], [], [], 0, [], []), (287, [(0, (2, 0, 0, [0])), (1, (0, 0, 47, [])), (2, (0, 0, 24, [])), (3, (0, 1, 47, [])), (4, (0, 0, 24, [])), (5, (0, -1, 23, [])), (6, (0, 0, 2147483647, [])), (7, (0, 0, 2147483647, [])), (8, (1, -9223372036854775808, 9223372036854775807, [])), (10, (1, -9223372036854775808, 9223372036854775807, [])), (12, (1, -9223372036854775808, 9223372036854775807, [])), (14, (1, -9223372036854775808, 9223372036854775807, []))], [], (0, 0), [(0, 0, 99713)], [], [], [], 0, [], []), (321, [(0, (2, 0, 0, [0])), (1, (0, 0, 47, [])), (2, (0, 0, 24, [])), (3, (0, 1, 47, [])), (4, (0, 0, 24, [])), (5, (0, 0, 23, [])), (6, (0, 0, 2147483647, [])), (7, (0, 0, 2147483647, [])), (8, (1, -9223372036854775808, 9223372036854775807, [])), (10, (1, -9223372036854775808, 9223372036854775807, [])), (12, (1, -9223372036854775808, 9223372036854775807, [])), (14, (1, -9223372036854775808, 9223372036854775807, []))], [], (0, 0), [(0, 0, 99679)], [], [], [], 0, [], []), (322, [(0, (2, 0, 0, [0])), (1, (0, 0, 47, [])), (2, (0, 0, 24, [])), (3, (0, 1, 47, [])), (4, (0, 0, 24, [])), (5, (0, 0, 23, [])), (6, (0, 0, 2147483647, [])), (7, (0, 0, 2147483647, [])), (8, (1, -9223372036854775808, 9223372036854775807, [])), (10, (1, -9223372036854775808, 9223372036854775807, [])), (12, (1, -9223372036854775808, 9223372036854775807, [])), (14, (1, -9223372036854775808, 9223372036854775807, []))], [(0, 0, 1, [])], (0, 0), [(0, 0, 99678)], [], [], [], 0, [], []), (339, [(0, (2, 0, 0, [0])), (1, (0, 0, 47, [])), (2, (0, 0, 24, [])), (3, (0, 1, 47, [])), (4, (0, 0, 24, [])), (5, (0, 0, 23, [])), (6, (0, 0, 2147483647, [])), (7, (0, 0, 2147483647, [])), (8, (1, -9223372036854775808, 9223372036854775807, [])), (10, (1, -9223372036854775808, 9223372036854775807, [])), (12, (1, -9223372036854775808, 9223372036854775807, [])), (14, (1, -9223372036854775808, 9223372036854775807, [])), (16, (0, 1, 1, []))], [], (0, 0), [(0, 0, 99661)], [], [], [], 0, [], []), (343, [(0, (2, 0, 0, [0])), (1, (0, 0, 47, [])), (2, (0, 0, 24, [])), (3, (0, 1, 47, [])), (4, (0, 0, 24, [])), (5, (0, 0, 23, [])), (6, (0, 0, 2147483647, [])), (7, (0, 0, 2147483647, [])), (8, (1, -9223372036854775808, 9223372036854775807, [])), (10, (1, -9223372036854775808, 9223372036854775807, [])), (12, (1, -9223372036854775808, 9223372036854775807, [])), (14, (1, -9223372036854775808, 9223372036854775807, [])), (16, (0, 0, 1, []))], [], (0, 0), [(0, 0, 99657)], [], [], [], 0, [], []), (344, [(0, (2, 0, 0, [0])), (1, (0, 0, 47, [])), (2, (0, 0, 24, [])), (3, (0, 1, 47, [])), (4, (0, 0, 24, [])), (5, (0, 0, 23, [])), (6, (0, 0, 2147483647, [])), (7, (0, 0, 2147483647, [])), (8, (1, -9223372036854775808, 9223372036854775807, [])), (10, (1, -9223372036854775808, 9223372036854775807, [])), (12, (1, -9223372036854775808, 9223372036854775807, [])), (14, (1, -9223372036854775808, 9223372036854775807, [])), (16, (0, 0, 1, []))], [(0, 0, 1, [])], (0, 0), [(0, 0, 99656)], [], [], [], 0, [], [])]
def t_Dr_clash_ct : ct_L := [(1, 198, e_Dr_sideOf), (1, 206, e_Dr_isOnPiece), (13, 128, e_Dr_pointX_np), (37, 128, e_Dr_pointX_np), (58, 128, e_Dr_pointX_np), (85, 128, e_Dr_pointX_np), (93, 202, e_Dr_overlap_np), (118, 134, e_Dr_pointY_np), (142, 134, e_Dr_pointY_np), (163, 134, e_Dr_pointY_np), (190, 134, e_Dr_pointY_np), (198, 202, e_Dr_overlap_np), (271, 128, e_Dr_pointX_np), (289, 134, e_Dr_pointY_np), (340, 128, e_Dr_pointX_np), (364, 134, e_Dr_pointY_np), (409, 128, e_Dr_pointX_np), (430, 134, e_Dr_pointY_np), (481, 128, e_Dr_pointX_np), (508, 134, e_Dr_pointY_np)]
set_option maxRecDepth 100000 in
theorem c_Dr_clash {l : Launch} {D : va_G} {kA : Nat → ClassId} (h_Dr_isOnPiece : ct_ok l D kA GG y_Dr_isOnPiece z_Dr_isOnPiece e_Dr_isOnPiece) (h_Dr_overlap : ct_ok l D kA GG y_Dr_overlap z_Dr_overlap e_Dr_overlap) (h_Dr_pointX : ct_ok l D kA GG y_Dr_pointX z_Dr_pointX e_Dr_pointX) (h_Dr_pointY : ct_ok l D kA GG y_Dr_pointY z_Dr_pointY e_Dr_pointY) (h_Dr_sideOf : ct_ok l D kA GG y_Dr_sideOf z_Dr_sideOf e_Dr_sideOf) : ct_ok l D kA GG y_Dr_clash z_Dr_clash e_Dr_clash := chk_all_ok (FT := [(15, 0, 2), (19, 0, 3)]) (PT := []) (CT := t_Dr_clash_ct) (KT := []) (NT := []) (AN := n_Dr_clash_an) (OT := []) 1 772 (List.forall_mem_nil _) (by decide +kernel) ⟨List.forall_mem_cons.mpr ⟨gf_Dr_15, List.forall_mem_cons.mpr ⟨gf_Dr_19, List.forall_mem_nil _⟩⟩, List.forall_mem_nil _, List.forall_mem_cons.mpr ⟨cl_virtual (y := y_Dr_sideOf) (ci := 0) rfl rfl ⟨_, _, rfl⟩ (by decide +kernel) h_Dr_sideOf wm_2030 wm_8 wm_2027 wm_2029 wv_9_14 ⟨by decide, by decide, by decide +kernel⟩ (by decide), List.forall_mem_cons.mpr ⟨cl_virtual (y := y_Dr_isOnPiece) (ci := 0) rfl rfl ⟨_, _, rfl⟩ (by decide +kernel) h_Dr_isOnPiece wm_2034 wm_8 wm_2031 wm_2033 wv_9_15 ⟨by decide, by decide, by decide +kernel⟩ (by decide), List.forall_mem_cons.mpr ⟨cl_nopa (cl_virtual (y := y_Dr_pointX) (ci := 0) rfl rfl ⟨_, _, rfl⟩ (by decide +kernel) h_Dr_pointX wm_1986 wm_8 wm_1983 wm_1984 wm_1985 ⟨by decide, by decide, by decide +kernel⟩ (by decide)), List.forall_mem_cons.mpr ⟨cl_nopa (cl_virtual (y := y_Dr_pointX) (ci := 0) rfl rfl ⟨_, _, rfl⟩ (by decide +kernel) h_Dr_pointX wm_1986 wm_8 wm_1983 wm_1984 wm_1985 ⟨by decide, by decide, by decide +kernel⟩ (by decide)), List.forall_mem_cons.mpr ⟨cl_nopa (cl_virtual (y := y_Dr_pointX) (ci := 0) rfl rfl ⟨_, _, rfl⟩ (by decide +kernel) h_Dr_pointX wm_1986 wm_8 wm_1983 wm_1984 wm_1985 ⟨by decide, by decide, by decide +kernel⟩ (by decide)), List.forall_mem_cons.mpr ⟨cl_nopa (cl_virtual (y := y_Dr_pointX) (ci := 0) rfl rfl ⟨_, _, rfl⟩ (by decide +kernel) h_Dr_pointX wm_1986 wm_8 wm_1983 wm_1984 wm_1985 ⟨by decide, by decide, by decide +kernel⟩ (by decide)), List.forall_mem_cons.mpr ⟨cl_nopa (cl_static (y := y_Dr_overlap) h_Dr_overlap wm_2024 wm_8 wm_2022 wm_2023 ⟨by decide, by decide, by decide +kernel⟩ (by decide)), List.forall_mem_cons.mpr ⟨cl_nopa (cl_virtual (y := y_Dr_pointY) (ci := 0) rfl rfl ⟨_, _, rfl⟩ (by decide +kernel) h_Dr_pointY wm_1991 wm_8 wm_1988 wm_1989 wm_1990 ⟨by decide, by decide, by decide +kernel⟩ (by decide)), List.forall_mem_cons.mpr ⟨cl_nopa (cl_virtual (y := y_Dr_pointY) (ci := 0) rfl rfl ⟨_, _, rfl⟩ (by decide +kernel) h_Dr_pointY wm_1991 wm_8 wm_1988 wm_1989 wm_1990 ⟨by decide, by decide, by decide +kernel⟩ (by decide)), List.forall_mem_cons.mpr ⟨cl_nopa (cl_virtual (y := y_Dr_pointY) (ci := 0) rfl rfl ⟨_, _, rfl⟩ (by decide +kernel) h_Dr_pointY wm_1991 wm_8 wm_1988 wm_1989 wm_1990 ⟨by decide, by decide, by decide +kernel⟩ (by decide)), List.forall_mem_cons.mpr ⟨cl_nopa (cl_virtual (y := y_Dr_pointY) (ci := 0) rfl rfl ⟨_, _, rfl⟩ (by decide +kernel) h_Dr_pointY wm_1991 wm_8 wm_1988 wm_1989 wm_1990 ⟨by decide, by decide, by decide +kernel⟩ (by decide)), List.forall_mem_cons.mpr ⟨cl_nopa (cl_static (y := y_Dr_overlap) h_Dr_overlap wm_2024 wm_8 wm_2022 wm_2023 ⟨by decide, by decide, by decide +kernel⟩ (by decide)), List.forall_mem_cons.mpr ⟨cl_nopa (cl_virtual (y := y_Dr_pointX) (ci := 0) rfl rfl ⟨_, _, rfl⟩ (by decide +kernel) h_Dr_pointX wm_1986 wm_8 wm_1983 wm_1984 wm_1985 ⟨by decide, by decide, by decide +kernel⟩ (by decide)), List.forall_mem_cons.mpr ⟨cl_nopa (cl_virtual (y := y_Dr_pointY) (ci := 0) rfl rfl ⟨_, _, rfl⟩ (by decide +kernel) h_Dr_pointY wm_1991 wm_8 wm_1988 wm_1989 wm_1990 ⟨by decide, by decide, by decide +kernel⟩ (by decide)), List.forall_mem_cons.mpr ⟨cl_nopa (cl_virtual (y := y_Dr_pointX) (ci := 0) rfl rfl ⟨_, _, rfl⟩ (by decide +kernel) h_Dr_pointX wm_1986 wm_8 wm_1983 wm_1984 wm_1985 ⟨by decide, by decide, by decide +kernel⟩ (by decide)), List.forall_mem_cons.mpr ⟨cl_nopa (cl_virtual (y := y_Dr_pointY) (ci := 0) rfl rfl ⟨_, _, rfl⟩ (by decide +kernel) h_Dr_pointY wm_1991 wm_8 wm_1988 wm_1989 wm_1990 ⟨by decide, by decide, by decide +kernel⟩ (by decide)), List.forall_mem_cons.mpr ⟨cl_nopa (cl_virtual (y := y_Dr_pointX) (ci := 0) rfl rfl ⟨_, _, rfl⟩ (by decide +kernel) h_Dr_pointX wm_1986 wm_8 wm_1983 wm_1984 wm_1985 ⟨by decide, by decide, by decide +kernel⟩ (by decide)), List.forall_mem_cons.mpr ⟨cl_nopa (cl_virtual (y := y_Dr_pointY) (ci := 0) rfl rfl ⟨_, _, rfl⟩ (by decide +kernel) h_Dr_pointY wm_1991 wm_8 wm_1988 wm_1989 wm_1990 ⟨by decide, by decide, by decide +kernel⟩ (by decide)), List.forall_mem_cons.mpr ⟨cl_nopa (cl_virtual (y := y_Dr_pointX) (ci := 0) rfl rfl ⟨_, _, rfl⟩ (by decide +kernel) h_Dr_pointX wm_1986 wm_8 wm_1983 wm_1984 wm_1985 ⟨by decide, by decide, by decide +kernel⟩ (by decide)), List.forall_mem_cons.mpr ⟨cl_nopa (cl_virtual (y := y_Dr_pointY) (ci := 0) rfl rfl ⟨_, _, rfl⟩ (by decide +kernel) h_Dr_pointY wm_1991 wm_8 wm_1988 wm_1989 wm_1990 ⟨by decide, by decide, by decide +kernel⟩ (by decide)), List.forall_mem_nil _⟩⟩⟩⟩⟩⟩⟩⟩⟩⟩⟩⟩⟩⟩⟩⟩⟩⟩⟩⟩, List.forall_mem_nil _, List.forall_mem_nil _, GG_pl⟩ (by decide +kernel)
def n_Dr_countStruckNodes_an : List an_T := [(4, [(0, (2, 0, 0, [0])), (1, (1, -9223372036854775808, 9223372036854775807, [])), (3, (0, 0, 48, []))], [], (0, 0), [(0, 0, 99996), (1, 2, 48), (0, 0, 100000), (0, 0, 0), (0, 0, 0)], [], [], [], 0, [], []), (18, [(0, (2, 0, 0, [0])), (1, (1, -9223372036854775808, 9223372036854775807, [])), (3, (0, 0, 47, [])), (4, (0, 0, 24, []))], [], (0, 0), [(0, 0, 99996), (1, 2, 48), (0, 0, 99982), (1, 3, 24), (0, 0, 100000)], [], [], [], 0, [], [])]
def t_Dr_countStruckNodes_ct : ct_L := [(1, 210, e_Dr_isStruck)]
set_option maxRecDepth 100000 in
theorem c_Dr_countStruckNodes {l : Launch} {D : va_G} {kA : Nat → ClassId} (h_Dr_isStruck : ct_ok l D kA GG y_Dr_isStruck z_Dr_isStruck e_Dr_isStruck) : ct_ok l D kA GG y_Dr_countStruckNodes z_Dr_countStruckNodes e_Dr_countStruckNodes := chk_all_ok (FT := [(74, 0, 0), (106, 3, 7), (109, 3, 8), (141, 3, 0), (151, 3, 1)]) (PT := []) (CT := t_Dr_countStruckNodes_ct) (KT := []) (NT := []) (AN := n_Dr_countStruckNodes_an) (OT := []) 5 204 (List.forall_mem_nil _) (by decide +kernel) ⟨List.forall_mem_cons.mpr ⟨gf_Dr_74, List.forall_mem_cons.mpr ⟨gf_Dr_106, List.forall_mem_cons.mpr ⟨gf_Dr_109, List.forall_mem_cons.mpr ⟨gf_Dr_141, List.forall_mem_cons.mpr ⟨gf_Dr_151, List.forall_mem_nil _⟩⟩⟩⟩⟩, List.forall_mem_nil _, List.forall_mem_cons.mpr ⟨cl_virtual (y := y_Dr_isStruck) (ci := 0) rfl rfl ⟨_, _, rfl⟩ (by decide +kernel) h_Dr_isStruck wm_2046 wm_8 wm_2043 wm_2045 wv_10_2 ⟨by decide, by decide, by decide +kernel⟩ (by decide), List.forall_mem_nil _⟩, List.forall_mem_nil _, List.forall_mem_nil _, GG_pl⟩ (by decide +kernel)
def n_Dr_putLabel_an : List an_T := [(2, [(0, (2, 0, 0, [0])), (1, (0, 0, 47, [])), (2, (0, 0, 25, []))], [], (0, 0), [(0, 0, 99998), (1, 2, 25), (0, 0, 100000)], [], [], [], 0, [], [])]
def t_Dr_putLabel_ct : ct_L := [(1, 137, e_Dr_isFree), (49, 128, e_Dr_pointX_np), (73, 128, e_Dr_pointX_np), (87, 131, e_jMath_floorDiv1_v39), (109, 134, e_Dr_pointY_np), (133, 134, e_Dr_pointY_np), (147, 131, e_jMath_floorDiv1_v39)]
set_option maxRecDepth 100000 in
theorem c_Dr_putLabel {l : Launch} {D : va_G} {kA : Nat → ClassId} (h_Dr_isFree : ct_ok l D kA GG y_Dr_isFree z_Dr_isFree e_Dr_isFree) (h_Dr_pointX : ct_ok l D kA GG y_Dr_pointX z_Dr_pointX e_Dr_pointX) (h_Dr_pointY : ct_ok l D kA GG y_Dr_pointY z_Dr_pointY e_Dr_pointY) : ct_ok l D kA GG y_Dr_putLabel z_Dr_putLabel e_Dr_putLabel := chk_all_ok (FT := [(22, 0, 4), (56, 0, 15), (59, 0, 16)]) (PT := []) (CT := t_Dr_putLabel_ct) (KT := []) (NT := []) (AN := n_Dr_putLabel_an) (OT := []) 3 224 (List.forall_mem_nil _) (by decide +kernel) ⟨List.forall_mem_cons.mpr ⟨gf_Dr_22, List.forall_mem_cons.mpr ⟨gf_Dr_56, List.forall_mem_cons.mpr ⟨gf_Dr_59, List.forall_mem_nil _⟩⟩⟩, List.forall_mem_nil _, List.forall_mem_cons.mpr ⟨cl_virtual (y := y_Dr_isFree) (ci := 0) rfl rfl ⟨_, _, rfl⟩ (by decide +kernel) h_Dr_isFree wm_1995 wm_8 wm_1992 wm_1994 wv_9_10 ⟨by decide, by decide, by decide +kernel⟩ (by decide), List.forall_mem_cons.mpr ⟨cl_nopa (cl_virtual (y := y_Dr_pointX) (ci := 0) rfl rfl ⟨_, _, rfl⟩ (by decide +kernel) h_Dr_pointX wm_1986 wm_8 wm_1983 wm_1984 wm_1985 ⟨by decide, by decide, by decide +kernel⟩ (by decide)), List.forall_mem_cons.mpr ⟨cl_nopa (cl_virtual (y := y_Dr_pointX) (ci := 0) rfl rfl ⟨_, _, rfl⟩ (by decide +kernel) h_Dr_pointX wm_1986 wm_8 wm_1983 wm_1984 wm_1985 ⟨by decide, by decide, by decide +kernel⟩ (by decide)), List.forall_mem_cons.mpr ⟨cl_static (y := y_jMath_floorDiv1) c_jMath_floorDiv1_v39 wm_1617 wm_10 wm_1987 wm_1616 ⟨by decide, by decide, by decide +kernel⟩ (by decide), List.forall_mem_cons.mpr ⟨cl_nopa (cl_virtual (y := y_Dr_pointY) (ci := 0) rfl rfl ⟨_, _, rfl⟩ (by decide +kernel) h_Dr_pointY wm_1991 wm_8 wm_1988 wm_1989 wm_1990 ⟨by decide, by decide, by decide +kernel⟩ (by decide)), List.forall_mem_cons.mpr ⟨cl_nopa (cl_virtual (y := y_Dr_pointY) (ci := 0) rfl rfl ⟨_, _, rfl⟩ (by decide +kernel) h_Dr_pointY wm_1991 wm_8 wm_1988 wm_1989 wm_1990 ⟨by decide, by decide, by decide +kernel⟩ (by decide)), List.forall_mem_cons.mpr ⟨cl_static (y := y_jMath_floorDiv1) c_jMath_floorDiv1_v39 wm_1617 wm_10 wm_1987 wm_1616 ⟨by decide, by decide, by decide +kernel⟩ (by decide), List.forall_mem_nil _⟩⟩⟩⟩⟩⟩⟩, List.forall_mem_nil _, List.forall_mem_nil _, GG_pl⟩ (by decide +kernel)
def n_Pl_layForces_an : List an_T := [(2, [(0, (2, 0, 0, [6])), (1, (0, -1, 512, [])), (2, (0, 0, 24, []))], [], (0, 0), [(0, 0, 99998), (1, 2, 24), (0, 0, 100000), (0, 0, 0), (0, 0, 0)], [], [((0, 0), (2, 0, 0, [3])), ((0, 1), (2, 0, 0, [0]))], [], 0, [], []), (55, [(0, (2, 0, 0, [6])), (1, (0, -1, 512, [])), (2, (0, 0, 512, []))], [], (0, 0), [(0, 0, 99945), (1, 2, 512), (0, 0, 100000), (0, 0, 0), (0, 0, 0)], [], [((0, 0), (2, 0, 0, [3])), ((0, 1), (2, 0, 0, [0]))], [], 0, [], []), (79, [(0, (2, 0, 0, [6])), (1, (0, 1, 512, [])), (2, (0, 0, 511, [])), (3, (1, 0, 256, [])), (5, (0, 0, 24, []))], [], (0, 0), [(0, 0, 99945), (1, 2, 512), (0, 0, 99921), (1, 4, 24), (0, 0, 100000)], [], [((0, 0), (2, 0, 0, [3])), ((0, 1), (2, 0, 0, [0]))], [], 0, [], []), (157, [(0, (2, 0, 0, [6])), (1, (0, -1, 512, [])), (2, (0, 0, 24, []))], [], (0, 0), [(0, 0, 99843), (1, 2, 24), (0, 0, 100000), (0, 0, 0), (0, 0, 0)], [], [((0, 0), (2, 0, 0, [3])), ((0, 1), (2, 0, 0, [0]))], [], 0, [], [])]
def t_Pl_layForces_ct : ct_L := [(1, 235, e_Pl_sumPulls), (330, 210, e_jMath_min2_v73), (339, 207, e_jMath_max2_v74), (408, 210, e_jMath_min2_v73), (417, 207, e_jMath_max2_v74), (558, 240, e_jMath_floorDiv2_v72), (624, 240, e_jMath_floorDiv2_v72)]
set_option maxRecDepth 100000 in
theorem c_Pl_layForces {l : Launch} {D : va_G} {kA : Nat → ClassId} (h_Pl_sumPulls : ct_ok l D kA GG y_Pl_sumPulls z_Pl_sumPulls e_Pl_sumPulls) : ct_ok l D kA GG y_Pl_layForces z_Pl_layForces e_Pl_layForces := chk_all_ok (FT := [(9, 6, 0), (15, 6, 1), (61, 6, 15), (65, 6, 16), (68, 6, 17), (71, 6, 18), (74, 3, 0), (127, 0, 2), (135, 0, 3)]) (PT := []) (CT := t_Pl_layForces_ct) (KT := [(2, 238, .long (16), (1, 16, 16, []))]) (NT := []) (AN := n_Pl_layForces_an) (OT := []) 5 504 (List.forall_mem_nil _) (by decide +kernel) ⟨List.forall_mem_cons.mpr ⟨gf_Pl_9, List.forall_mem_cons.mpr ⟨gf_Pl_15, List.forall_mem_cons.mpr ⟨gf_Pl_61, List.forall_mem_cons.mpr ⟨gf_Pl_65, List.forall_mem_cons.mpr ⟨gf_Pl_68, List.forall_mem_cons.mpr ⟨gf_Pl_71, List.forall_mem_cons.mpr ⟨gf_Pl_74, List.forall_mem_cons.mpr ⟨gf_Pl_127, List.forall_mem_cons.mpr ⟨gf_Pl_135, List.forall_mem_nil _⟩⟩⟩⟩⟩⟩⟩⟩⟩, List.forall_mem_nil _, List.forall_mem_cons.mpr ⟨cl_virtual (y := y_Pl_sumPulls) (ci := 6) rfl rfl ⟨_, _, rfl⟩ (by decide +kernel) h_Pl_sumPulls wm_1787 wm_21 wm_1784 wm_1786 wv_8_10 ⟨by decide, by decide, by decide +kernel⟩ (by decide), List.forall_mem_cons.mpr ⟨cl_static (y := y_jMath_min2) c_jMath_min2_v73 wm_1753 wm_10 wm_1751 wm_1752 ⟨by decide, by decide, by decide +kernel⟩ (by decide), List.forall_mem_cons.mpr ⟨cl_static (y := y_jMath_max2) c_jMath_max2_v74 wm_1750 wm_10 wm_1748 wm_1749 ⟨by decide, by decide, by decide +kernel⟩ (by decide), List.forall_mem_cons.mpr ⟨cl_static (y := y_jMath_min2) c_jMath_min2_v73 wm_1753 wm_10 wm_1751 wm_1752 ⟨by decide, by decide, by decide +kernel⟩ (by decide), List.forall_mem_cons.mpr ⟨cl_static (y := y_jMath_max2) c_jMath_max2_v74 wm_1750 wm_10 wm_1748 wm_1749 ⟨by decide, by decide, by decide +kernel⟩ (by decide), List.forall_mem_cons.mpr ⟨cl_static (y := y_jMath_floorDiv2) c_jMath_floorDiv2_v72 wm_1800 wm_10 wm_1798 wm_1799 ⟨by decide, by decide, by decide +kernel⟩ (by decide), List.forall_mem_cons.mpr ⟨cl_static (y := y_jMath_floorDiv2) c_jMath_floorDiv2_v72 wm_1800 wm_10 wm_1798 wm_1799 ⟨by decide, by decide, by decide +kernel⟩ (by decide), List.forall_mem_nil _⟩⟩⟩⟩⟩⟩⟩, List.forall_mem_cons.mpr ⟨⟨kt_mk2 wm_1797, fun _ => Or.inr (Or.inl ⟨rfl, _, rfl, by decide, by decide⟩)⟩, List.forall_mem_nil _⟩, List.forall_mem_nil _, GG_pl⟩ (by decide +kernel)
def n_Pn_joinParts_an : List an_T := [(2, [(0, (2, 0, 0, [7])), (1, (2, 0, 0, [2])), (2, (0, 1, 24, []))], [], (0, 0), [(0, 0, 99998), (1, 2, 24), (0, 0, 100000), (0, 0, 0), (0, 0, 0)], [], [], [], 0, [], []), (12, [(0, (2, 0, 0, [7])), (1, (2, 0, 0, [2])), (2, (0, 1, 23, [])), (3, (0, 0, 24, []))], [], (0, 0), [(0, 0, 99998), (1, 2, 24), (0, 0, 99988), (1, 3, 24), (0, 0, 100000)], [], [], [], 0, [], [])]
def t_Pn_joinParts_ct : ct_L := [(1, 107, e_Ne_insertLast), (1, 111, e_Ne_traceFaces), (121, 104, e_Ne_join_at_Ne)]
set_option maxRecDepth 100000 in
theorem c_Pn_joinParts {l : Launch} {D : va_G} {kA : Nat → ClassId} (h_Ne_insertLast : ct_ok l D kA GG y_Ne_insertLast z_Ne_insertLast e_Ne_insertLast) (h_Ne_join_at_Ne : ct_ok l D kA GG y_Ne_join_at_Ne z_Ne_join_at_Ne e_Ne_join_at_Ne) (h_Ne_traceFaces : ct_ok l D kA GG y_Ne_traceFaces z_Ne_traceFaces e_Ne_traceFaces) : ct_ok l D kA GG y_Pn_joinParts z_Pn_joinParts e_Pn_joinParts := chk_all_ok (FT := [(12, 7, 0), (61, 2, 1), (86, 5, 5), (101, 2, 4)]) (PT := []) (CT := t_Pn_joinParts_ct) (KT := []) (NT := []) (AN := n_Pn_joinParts_an) (OT := []) 5 204 (List.forall_mem_nil _) (by decide +kernel) ⟨List.forall_mem_cons.mpr ⟨gf_Pn_12, List.forall_mem_cons.mpr ⟨gf_Pn_61, List.forall_mem_cons.mpr ⟨gf_Pn_86, List.forall_mem_cons.mpr ⟨gf_Pn_101, List.forall_mem_nil _⟩⟩⟩⟩, List.forall_mem_nil _, List.forall_mem_cons.mpr ⟨cl_virtual (y := y_Ne_insertLast) (ci := 5) rfl rfl ⟨_, _, rfl⟩ (by decide +kernel) h_Ne_insertLast wm_1522 wm_6 wm_1519 wm_1520 wm_1521 ⟨by decide, by decide, by decide +kernel⟩ (by decide), List.forall_mem_cons.mpr ⟨cl_virtual (y := y_Ne_traceFaces) (ci := 5) rfl rfl ⟨_, _, rfl⟩ (by decide +kernel) h_Ne_traceFaces wm_1150 wm_6 wm_1531 wm_1148 wm_1149 ⟨by decide, by decide, by decide +kernel⟩ (by decide), List.forall_mem_cons.mpr ⟨cl_virtual (y := y_Ne_join_at_Ne) (ci := 5) rfl rfl ⟨_, _, rfl⟩ (by decide +kernel) h_Ne_join_at_Ne wm_1065 wm_6 wm_1518 wm_1063 wm_1064 ⟨by decide, by decide, by decide +kernel⟩ (by decide), List.forall_mem_nil _⟩⟩⟩, List.forall_mem_nil _, List.forall_mem_nil _, GG_pl⟩ (by decide +kernel)
def o_Mo_gather_0 : or_T := (7, 4, [(0, (2, 0, 0, [150])), (2, (0, 0, 0, [])), (3, (0, 1, 1, []))], [(101, [0, 2], [132])], [], [], [(20, [0, 3], [30, 0, 1, 1, 132, -1, 0, 0])], [], [])
theorem oo_Mo_gather_0 {kA : Nat → ClassId} : or_ok kA GG o_Mo_gather_0 := by
  intro A ta ws vs hD hth hl hk hds hf
  have hl : vs.length = 4 := hl
  have hk : ∀ q ∈ ([(0, (2, 0, 0, [150])), (2, (0, 0, 0, [])), (3, (0, 1, 1, []))] : List (Nat × tv_T)), tv_ok ta q.2 (n_v vs q.1) := hk
  obtain ⟨t0, hk⟩ := List.forall_mem_cons.mp hk
  have t0 : tv_ok ta (2, 0, 0, [150]) (n_v vs 0) := t0
  have r0 : ta (v_ad (n_v vs 0)) = some 150 := tv_rg t0
  obtain ⟨t2, hk⟩ := List.forall_mem_cons.mp hk
  have t2 : tv_ok ta (0, 0, 0, []) (n_v vs 2) := t2
  have k2 : 0 ≤ v_iv (n_v vs 2) ∧ v_iv (n_v vs 2) ≤ 0 := tv_rng t2
  obtain ⟨t3, hk⟩ := List.forall_mem_cons.mp hk
  have t3 : tv_ok ta (0, 1, 1, []) (n_v vs 3) := t3
  have k3 : 1 ≤ v_iv (n_v vs 3) ∧ v_iv (n_v vs 3) ≤ 1 := tv_rng t3
  have hf : fc_ok [(101, [0, 2], [132])] ta ws vs := hf
  obtain ⟨ta1, w1, le1, ⟨_, s1⟩, hf⟩ := fc_us (show ¬ (101 : Nat) < 100 from by decide) hf
  have s1 : (∀ b j, w_el ws b j = w_el w1 b j) ∧ ∀ b j, w_fd ws b j = if b = v_ad (n_v vs 0) ∧ j = 132 then n_v vs 2 else w_fd w1 b j := s1
  have fe_0_132_1 : w_fi ws (n_v vs 0) 132 = v_iv (n_v vs 2) := by show v_iv (w_fd _ _ _) = _; rw [s1.2, if_pos ⟨rfl, rfl⟩]
  have kz_0_132 : 0 ≤ w_fi ws (n_v vs 0) 132 ∧ w_fi ws (n_v vs 0) 132 ≤ 40 := tv_rng (th_fd hD hth r0 (g := GG_150) rfl (k := 132) (t := (0, 0, 40, [])) rfl rfl)
  have nf0 : fc_1 (20, [0, 3], [30, 0, 1, 1, 132, -1, 0, 0]) ws (vs) := by
    refine ⟨fun n hn => ?_, ?_⟩
    · have hn : n ∈ [0, 3] := hn
      rw [hl]
      simp only [List.mem_cons, List.not_mem_nil, or_false] at hn
      show n < 4; omega
    · show 1 * w_fi ws (n_v vs 0) 132 + ((-1) * v_iv (n_v vs 3) + 0) ≤ 0
      omega
  refine ⟨(fun _ h => (by cases h)), [], trivial, ?_, (fun _ h => (by cases h))⟩
  rw [List.append_nil]
  exact List.forall_mem_cons.mpr ⟨⟨show (20 : Nat) < 100 from by decide, nf0⟩, (fun _ h => (by cases h))⟩
def o_Mo_gather_1 : or_T := (63, 5, [(0, (2, 0, 0, [150])), (2, (0, 1, 8, [])), (3, (0, 0, 8, [])), (4, (0, 0, 0, []))], [(7, [2, 3], [3]), (20, [3, 0], [30, 0, 1, 0, 0, -1, 3, 2005002]), (20, [3, 0], [30, 0, -1, 0, 0, 1, 3, 2005002]), (20, [0, 2], [30, 0, 1, 1, 132, -1, 0, 0])], [], [], [(20, [0, 4], [30, 8, 1, 1, 132, -1, 0, 0])], [], [(2, 3, 0, 4294967296)])
theorem oo_Mo_gather_1 {kA : Nat → ClassId} : or_ok kA GG o_Mo_gather_1 := by
  intro A ta ws vs hD hth hl hk hds hf
  have hl : vs.length = 5 := hl
  have hk : ∀ q ∈ ([(0, (2, 0, 0, [150])), (2, (0, 1, 8, [])), (3, (0, 0, 8, [])), (4, (0, 0, 0, []))] : List (Nat × tv_T)), tv_ok ta q.2 (n_v vs q.1) := hk
  obtain ⟨t0, hk⟩ := List.forall_mem_cons.mp hk
  have t0 : tv_ok ta (2, 0, 0, [150]) (n_v vs 0) := t0
  have r0 : ta (v_ad (n_v vs 0)) = some 150 := tv_rg t0
  obtain ⟨t2, hk⟩ := List.forall_mem_cons.mp hk
  have t2 : tv_ok ta (0, 1, 8, []) (n_v vs 2) := t2
  have k2 : 1 ≤ v_iv (n_v vs 2) ∧ v_iv (n_v vs 2) ≤ 8 := tv_rng t2
  obtain ⟨t3, hk⟩ := List.forall_mem_cons.mp hk
  have t3 : tv_ok ta (0, 0, 8, []) (n_v vs 3) := t3
  have k3 : 0 ≤ v_iv (n_v vs 3) ∧ v_iv (n_v vs 3) ≤ 8 := tv_rng t3
  obtain ⟨t4, hk⟩ := List.forall_mem_cons.mp hk
  have t4 : tv_ok ta (0, 0, 0, []) (n_v vs 4) := t4
  have k4 : 0 ≤ v_iv (n_v vs 4) ∧ v_iv (n_v vs 4) ≤ 0 := tv_rng t4
  have hds : ∀ q ∈ ([(2, 3, 0, 4294967296)] : List of_T), n_iv vs q.2.1 + q.2.2.1 ≤ n_iv vs q.1 ∧ n_iv vs q.1 ≤ n_iv vs q.2.1 + q.2.2.2 := hds
  obtain ⟨d0, hds⟩ := List.forall_mem_cons.mp hds
  have d0 : v_iv (n_v vs 3) + 0 ≤ v_iv (n_v vs 2) ∧ v_iv (n_v vs 2) ≤ v_iv (n_v vs 3) + 4294967296 := d0
  have hf : fc_ok [(7, [2, 3], [3]), (20, [3, 0], [30, 0, 1, 0, 0, -1, 3, 2005002]), (20, [3, 0], [30, 0, -1, 0, 0, 1, 3, 2005002]), (20, [0, 2], [30, 0, 1, 1, 132, -1, 0, 0])] ta ws vs := hf
  obtain ⟨f0, hf⟩ := fc_un (show (7 : Nat) < 100 from by decide) hf
  have f0 : v_iv (n_v vs 3) ≤ v_iv (n_v vs 2) := f0
  obtain ⟨f1, hf⟩ := fc_un (show (20 : Nat) < 100 from by decide) hf
  have f1 : 1 * v_iv (n_v vs 3) + ((-1) * w_el ws (w_ar ws (n_v vs 0) 2) (w_fi ws (n_v vs 0) 5 + 2).toNat + 0) ≤ 0 := f1
  obtain ⟨f2, hf⟩ := fc_un (show (20 : Nat) < 100 from by decide) hf
  have f2 : (-1) * v_iv (n_v vs 3) + (1 * w_el ws (w_ar ws (n_v vs 0) 2) (w_fi ws (n_v vs 0) 5 + 2).toNat + 0) ≤ 0 := f2
  obtain ⟨f3, hf⟩ := fc_un (show (20 : Nat) < 100 from by decide) hf
  have f3 : 1 * w_fi ws (n_v vs 0) 132 + ((-1) * v_iv (n_v vs 2) + 0) ≤ 0 := f3
  have cr_0_2 : ta (w_ar ws (n_v vs 0) 2) = some 152 := tv_rg (th_fd hD hth r0 (g := GG_150) rfl (k := 2) (t := (2, 0, 0, [152])) rfl rfl)
  have kz_0_132 : 0 ≤ w_fi ws (n_v vs 0) 132 ∧ w_fi ws (n_v vs 0) 132 ≤ 40 := tv_rng (th_fd hD hth r0 (g := GG_150) rfl (k := 132) (t := (0, 0, 40, [])) rfl rfl)
  have nf0 : fc_1 (20, [0, 4], [30, 8, 1, 1, 132, -1, 0, 0]) ws (vs) := by
    refine ⟨fun n hn => ?_, ?_⟩
    · have hn : n ∈ [0, 4] := hn
      rw [hl]
      simp only [List.mem_cons, List.not_mem_nil, or_false] at hn
      show n < 5; omega
    · show 1 * w_fi ws (n_v vs 0) 132 + ((-1) * v_iv (n_v vs 4) + 0) ≤ 8
      omega
  refine ⟨(fun _ h => (by cases h)), [], trivial, ?_, (fun _ h => (by cases h))⟩
  rw [List.append_nil]
  exact List.forall_mem_cons.mpr ⟨⟨show (20 : Nat) < 100 from by decide, nf0⟩, (fun _ h => (by cases h))⟩
def o_Mo_gather_2 : or_T := (7, 11, [(0, (2, 0, 0, [150])), (2, (0, 1, 7, [])), (3, (0, 2, 8, [])), (4, (2, 0, 0, [152])), (5, (0, 0, 66297, [])), (10, (0, 2, 8, []))], [(6, [10, 2], [1]), (9, [5, 0], [5]), (9, [4, 0], [2]), (7, [2, 3], [2]), (20, [3, 0], [30, 0, 1, 0, 0, -1, 3, 2005002]), (20, [3, 0], [30, 0, -1, 0, 0, 1, 3, 2005002]), (20, [0, 2], [30, 0, 1, 1, 132, -1, 0, 0])], [], [], [(20, [0, 10], [30, 0, 1, 1, 132, -1, 0, 0])], [], [(10, 2, 1, 1), (10, 3, -4294967296, 0), (2, 3, -4294967296, -1)])
theorem oo_Mo_gather_2 {kA : Nat → ClassId} : or_ok kA GG o_Mo_gather_2 := by
  intro A ta ws vs hD hth hl hk hds hf
  have hl : vs.length = 11 := hl
  have hk : ∀ q ∈ ([(0, (2, 0, 0, [150])), (2, (0, 1, 7, [])), (3, (0, 2, 8, [])), (4, (2, 0, 0, [152])), (5, (0, 0, 66297, [])), (10, (0, 2, 8, []))] : List (Nat × tv_T)), tv_ok ta q.2 (n_v vs q.1) := hk
  obtain ⟨t0, hk⟩ := List.forall_mem_cons.mp hk
  have t0 : tv_ok ta (2, 0, 0, [150]) (n_v vs 0) := t0
  have r0 : ta (v_ad (n_v vs 0)) = some 150 := tv_rg t0
  obtain ⟨t2, hk⟩ := List.forall_mem_cons.mp hk
  have t2 : tv_ok ta (0, 1, 7, []) (n_v vs 2) := t2
  have k2 : 1 ≤ v_iv (n_v vs 2) ∧ v_iv (n_v vs 2) ≤ 7 := tv_rng t2
  obtain ⟨t3, hk⟩ := List.forall_mem_cons.mp hk
  have t3 : tv_ok ta (0, 2, 8, []) (n_v vs 3) := t3
  have k3 : 2 ≤ v_iv (n_v vs 3) ∧ v_iv (n_v vs 3) ≤ 8 := tv_rng t3
  obtain ⟨t4, hk⟩ := List.forall_mem_cons.mp hk
  have t4 : tv_ok ta (2, 0, 0, [152]) (n_v vs 4) := t4
  have r4 : ta (v_ad (n_v vs 4)) = some 152 := tv_rg t4
  obtain ⟨t5, hk⟩ := List.forall_mem_cons.mp hk
  have t5 : tv_ok ta (0, 0, 66297, []) (n_v vs 5) := t5
  have k5 : 0 ≤ v_iv (n_v vs 5) ∧ v_iv (n_v vs 5) ≤ 66297 := tv_rng t5
  obtain ⟨t10, hk⟩ := List.forall_mem_cons.mp hk
  have t10 : tv_ok ta (0, 2, 8, []) (n_v vs 10) := t10
  have k10 : 2 ≤ v_iv (n_v vs 10) ∧ v_iv (n_v vs 10) ≤ 8 := tv_rng t10
  have hds : ∀ q ∈ ([(10, 2, 1, 1), (10, 3, -4294967296, 0), (2, 3, -4294967296, -1)] : List of_T), n_iv vs q.2.1 + q.2.2.1 ≤ n_iv vs q.1 ∧ n_iv vs q.1 ≤ n_iv vs q.2.1 + q.2.2.2 := hds
  obtain ⟨d0, hds⟩ := List.forall_mem_cons.mp hds
  have d0 : v_iv (n_v vs 2) + 1 ≤ v_iv (n_v vs 10) ∧ v_iv (n_v vs 10) ≤ v_iv (n_v vs 2) + 1 := d0
  obtain ⟨d1, hds⟩ := List.forall_mem_cons.mp hds
  have d1 : v_iv (n_v vs 3) + (-4294967296) ≤ v_iv (n_v vs 10) ∧ v_iv (n_v vs 10) ≤ v_iv (n_v vs 3) + 0 := d1
  obtain ⟨d2, hds⟩ := List.forall_mem_cons.mp hds
  have d2 : v_iv (n_v vs 3) + (-4294967296) ≤ v_iv (n_v vs 2) ∧ v_iv (n_v vs 2) ≤ v_iv (n_v vs 3) + (-1) := d2
  have hf : fc_ok [(6, [10, 2], [1]), (9, [5, 0], [5]), (9, [4, 0], [2]), (7, [2, 3], [2]), (20, [3, 0], [30, 0, 1, 0, 0, -1, 3, 2005002]), (20, [3, 0], [30, 0, -1, 0, 0, 1, 3, 2005002]), (20, [0, 2], [30, 0, 1, 1, 132, -1, 0, 0])] ta ws vs := hf
  obtain ⟨f0, hf⟩ := fc_un (show (6 : Nat) < 100 from by decide) hf
  have f0 : v_iv (n_v vs 10) = v_iv (n_v vs 2) + 1 := f0
  obtain ⟨f1, hf⟩ := fc_un (show (9 : Nat) < 100 from by decide) hf
  have f1 : n_v vs 5 = w_fd ws (v_ad (n_v vs 0)) 5 := f1
  obtain ⟨f2, hf⟩ := fc_un (show (9 : Nat) < 100 from by decide) hf
  have f2 : n_v vs 4 = w_fd ws (v_ad (n_v vs 0)) 2 := f2
  obtain ⟨f3, hf⟩ := fc_un (show (7 : Nat) < 100 from by decide) hf
  have f3 : v_iv (n_v vs 2) < v_iv (n_v vs 3) := f3
  obtain ⟨f4, hf⟩ := fc_un (show (20 : Nat) < 100 from by decide) hf
  have f4 : 1 * v_iv (n_v vs 3) + ((-1) * w_el ws (w_ar ws (n_v vs 0) 2) (w_fi ws (n_v vs 0) 5 + 2).toNat + 0) ≤ 0 := f4
  obtain ⟨f5, hf⟩ := fc_un (show (20 : Nat) < 100 from by decide) hf
  have f5 : (-1) * v_iv (n_v vs 3) + (1 * w_el ws (w_ar ws (n_v vs 0) 2) (w_fi ws (n_v vs 0) 5 + 2).toNat + 0) ≤ 0 := f5
  obtain ⟨f6, hf⟩ := fc_un (show (20 : Nat) < 100 from by decide) hf
  have f6 : 1 * w_fi ws (n_v vs 0) 132 + ((-1) * v_iv (n_v vs 2) + 0) ≤ 0 := f6
  have cr_0_2 : ta (w_ar ws (n_v vs 0) 2) = some 152 := tv_rg (th_fd hD hth r0 (g := GG_150) rfl (k := 2) (t := (2, 0, 0, [152])) rfl rfl)
  have ad_4 : v_ad (n_v vs 4) = w_ar ws (n_v vs 0) 2 := congrArg v_ad f2
  have g1 : v_iv (n_v vs 5) = w_fi ws (n_v vs 0) 5 := congrArg v_iv f1
  have kz_0_132 : 0 ≤ w_fi ws (n_v vs 0) 132 ∧ w_fi ws (n_v vs 0) 132 ≤ 40 := tv_rng (th_fd hD hth r0 (g := GG_150) rfl (k := 132) (t := (0, 0, 40, [])) rfl rfl)
  have nf0 : fc_1 (20, [0, 10], [30, 0, 1, 1, 132, -1, 0, 0]) ws (vs) := by
    refine ⟨fun n hn => ?_, ?_⟩
    · have hn : n ∈ [0, 10] := hn
      rw [hl]
      simp only [List.mem_cons, List.not_mem_nil, or_false] at hn
      show n < 11; omega
    · show 1 * w_fi ws (n_v vs 0) 132 + ((-1) * v_iv (n_v vs 10) + 0) ≤ 0
      omega
  refine ⟨(fun _ h => (by cases h)), [], trivial, ?_, (fun _ h => (by cases h))⟩
  rw [List.append_nil]
  exact List.forall_mem_cons.mpr ⟨⟨show (20 : Nat) < 100 from by decide, nf0⟩, (fun _ h => (by cases h))⟩
def o_Mo_gather_3 : or_T := (7, 12, [(0, (2, 0, 0, [150])), (2, (0, 1, 7, [])), (3, (0, 2, 8, [])), (4, (2, 0, 0, [152])), (5, (0, 0, 66297, [])), (11, (0, 2, 8, []))], [(6, [11, 2], [1]), (9, [5, 0], [5]), (9, [4, 0], [2]), (7, [2, 3], [2]), (20, [3, 0], [30, 0, 1, 0, 0, -1, 3, 2005002]), (20, [3, 0], [30, 0, -1, 0, 0, 1, 3, 2005002]), (20, [0, 2], [30, 0, 1, 1, 132, -1, 0, 0])], [], [], [(20, [0, 11], [30, 0, 1, 1, 132, -1, 0, 0])], [], [(11, 2, 1, 1), (11, 3, -4294967296, 0), (2, 3, -4294967296, -1)])
theorem oo_Mo_gather_3 {kA : Nat → ClassId} : or_ok kA GG o_Mo_gather_3 := by
  intro A ta ws vs hD hth hl hk hds hf
  have hl : vs.length = 12 := hl
  have hk : ∀ q ∈ ([(0, (2, 0, 0, [150])), (2, (0, 1, 7, [])), (3, (0, 2, 8, [])), (4, (2, 0, 0, [152])), (5, (0, 0, 66297, [])), (11, (0, 2, 8, []))] : List (Nat × tv_T)), tv_ok ta q.2 (n_v vs q.1) := hk
  obtain ⟨t0, hk⟩ := List.forall_mem_cons.mp hk
  have t0 : tv_ok ta (2, 0, 0, [150]) (n_v vs 0) := t0
  have r0 : ta (v_ad (n_v vs 0)) = some 150 := tv_rg t0
  obtain ⟨t2, hk⟩ := List.forall_mem_cons.mp hk
  have t2 : tv_ok ta (0, 1, 7, []) (n_v vs 2) := t2
  have k2 : 1 ≤ v_iv (n_v vs 2) ∧ v_iv (n_v vs 2) ≤ 7 := tv_rng t2
  obtain ⟨t3, hk⟩ := List.forall_mem_cons.mp hk
  have t3 : tv_ok ta (0, 2, 8, []) (n_v vs 3) := t3
  have k3 : 2 ≤ v_iv (n_v vs 3) ∧ v_iv (n_v vs 3) ≤ 8 := tv_rng t3
  obtain ⟨t4, hk⟩ := List.forall_mem_cons.mp hk
  have t4 : tv_ok ta (2, 0, 0, [152]) (n_v vs 4) := t4
  have r4 : ta (v_ad (n_v vs 4)) = some 152 := tv_rg t4
  obtain ⟨t5, hk⟩ := List.forall_mem_cons.mp hk
  have t5 : tv_ok ta (0, 0, 66297, []) (n_v vs 5) := t5
  have k5 : 0 ≤ v_iv (n_v vs 5) ∧ v_iv (n_v vs 5) ≤ 66297 := tv_rng t5
  obtain ⟨t11, hk⟩ := List.forall_mem_cons.mp hk
  have t11 : tv_ok ta (0, 2, 8, []) (n_v vs 11) := t11
  have k11 : 2 ≤ v_iv (n_v vs 11) ∧ v_iv (n_v vs 11) ≤ 8 := tv_rng t11
  have hds : ∀ q ∈ ([(11, 2, 1, 1), (11, 3, -4294967296, 0), (2, 3, -4294967296, -1)] : List of_T), n_iv vs q.2.1 + q.2.2.1 ≤ n_iv vs q.1 ∧ n_iv vs q.1 ≤ n_iv vs q.2.1 + q.2.2.2 := hds
  obtain ⟨d0, hds⟩ := List.forall_mem_cons.mp hds
  have d0 : v_iv (n_v vs 2) + 1 ≤ v_iv (n_v vs 11) ∧ v_iv (n_v vs 11) ≤ v_iv (n_v vs 2) + 1 := d0
  obtain ⟨d1, hds⟩ := List.forall_mem_cons.mp hds
  have d1 : v_iv (n_v vs 3) + (-4294967296) ≤ v_iv (n_v vs 11) ∧ v_iv (n_v vs 11) ≤ v_iv (n_v vs 3) + 0 := d1
  obtain ⟨d2, hds⟩ := List.forall_mem_cons.mp hds
  have d2 : v_iv (n_v vs 3) + (-4294967296) ≤ v_iv (n_v vs 2) ∧ v_iv (n_v vs 2) ≤ v_iv (n_v vs 3) + (-1) := d2
  have hf : fc_ok [(6, [11, 2], [1]), (9, [5, 0], [5]), (9, [4, 0], [2]), (7, [2, 3], [2]), (20, [3, 0], [30, 0, 1, 0, 0, -1, 3, 2005002]), (20, [3, 0], [30, 0, -1, 0, 0, 1, 3, 2005002]), (20, [0, 2], [30, 0, 1, 1, 132, -1, 0, 0])] ta ws vs := hf
  obtain ⟨f0, hf⟩ := fc_un (show (6 : Nat) < 100 from by decide) hf
  have f0 : v_iv (n_v vs 11) = v_iv (n_v vs 2) + 1 := f0
  obtain ⟨f1, hf⟩ := fc_un (show (9 : Nat) < 100 from by decide) hf
  have f1 : n_v vs 5 = w_fd ws (v_ad (n_v vs 0)) 5 := f1
  obtain ⟨f2, hf⟩ := fc_un (show (9 : Nat) < 100 from by decide) hf
  have f2 : n_v vs 4 = w_fd ws (v_ad (n_v vs 0)) 2 := f2
  obtain ⟨f3, hf⟩ := fc_un (show (7 : Nat) < 100 from by decide) hf
  have f3 : v_iv (n_v vs 2) < v_iv (n_v vs 3) := f3
  obtain ⟨f4, hf⟩ := fc_un (show (20 : Nat) < 100 from by decide) hf
  have f4 : 1 * v_iv (n_v vs 3) + ((-1) * w_el ws (w_ar ws (n_v vs 0) 2) (w_fi ws (n_v vs 0) 5 + 2).toNat + 0) ≤ 0 := f4
  obtain ⟨f5, hf⟩ := fc_un (show (20 : Nat) < 100 from by decide) hf
  have f5 : (-1) * v_iv (n_v vs 3) + (1 * w_el ws (w_ar ws (n_v vs 0) 2) (w_fi ws (n_v vs 0) 5 + 2).toNat + 0) ≤ 0 := f5
  obtain ⟨f6, hf⟩ := fc_un (show (20 : Nat) < 100 from by decide) hf
  have f6 : 1 * w_fi ws (n_v vs 0) 132 + ((-1) * v_iv (n_v vs 2) + 0) ≤ 0 := f6
  have cr_0_2 : ta (w_ar ws (n_v vs 0) 2) = some 152 := tv_rg (th_fd hD hth r0 (g := GG_150) rfl (k := 2) (t := (2, 0, 0, [152])) rfl rfl)
  have ad_4 : v_ad (n_v vs 4) = w_ar ws (n_v vs 0) 2 := congrArg v_ad f2
  have g1 : v_iv (n_v vs 5) = w_fi ws (n_v vs 0) 5 := congrArg v_iv f1
  have kz_0_132 : 0 ≤ w_fi ws (n_v vs 0) 132 ∧ w_fi ws (n_v vs 0) 132 ≤ 40 := tv_rng (th_fd hD hth r0 (g := GG_150) rfl (k := 132) (t := (0, 0, 40, [])) rfl rfl)
  have nf0 : fc_1 (20, [0, 11], [30, 0, 1, 1, 132, -1, 0, 0]) ws (vs) := by
    refine ⟨fun n hn => ?_, ?_⟩
    · have hn : n ∈ [0, 11] := hn
      rw [hl]
      simp only [List.mem_cons, List.not_mem_nil, or_false] at hn
      show n < 12; omega
    · show 1 * w_fi ws (n_v vs 0) 132 + ((-1) * v_iv (n_v vs 11) + 0) ≤ 0
      omega
  refine ⟨(fun _ h => (by cases h)), [], trivial, ?_, (fun _ h => (by cases h))⟩
  rw [List.append_nil]
  exact List.forall_mem_cons.mpr ⟨⟨show (20 : Nat) < 100 from by decide, nf0⟩, (fun _ h => (by cases h))⟩
def o_Mo_gather_4 : or_T := (52, 14, [(0, (2, 0, 0, [150])), (2, (0, 1, 7, [])), (3, (0, 2, 8, [])), (4, (2, 0, 0, [152])), (5, (0, 0, 66297, []))], [(9, [5, 0], [5]), (9, [4, 0], [2]), (7, [2, 3], [2]), (20, [3, 0], [30, 0, 1, 0, 0, -1, 3, 2005002]), (20, [3, 0], [30, 0, -1, 0, 0, 1, 3, 2005002]), (20, [0, 2], [30, 0, 1, 1, 132, -1, 0, 0])], [], [(0, 0, 39, [])], [(20, [0, 14], [30, 0, 1, 1, 132, -1, 0, 0]), (23, [14, 2], [0, 1, -1])], [], [(2, 3, -4294967296, -1)])
theorem oo_Mo_gather_4 {kA : Nat → ClassId} : or_ok kA GG o_Mo_gather_4 := by
  intro A ta ws vs hD hth hl hk hds hf
  have hl : vs.length = 14 := hl
  have hk : ∀ q ∈ ([(0, (2, 0, 0, [150])), (2, (0, 1, 7, [])), (3, (0, 2, 8, [])), (4, (2, 0, 0, [152])), (5, (0, 0, 66297, []))] : List (Nat × tv_T)), tv_ok ta q.2 (n_v vs q.1) := hk
  obtain ⟨t0, hk⟩ := List.forall_mem_cons.mp hk
  have t0 : tv_ok ta (2, 0, 0, [150]) (n_v vs 0) := t0
  have r0 : ta (v_ad (n_v vs 0)) = some 150 := tv_rg t0
  obtain ⟨t2, hk⟩ := List.forall_mem_cons.mp hk
  have t2 : tv_ok ta (0, 1, 7, []) (n_v vs 2) := t2
  have k2 : 1 ≤ v_iv (n_v vs 2) ∧ v_iv (n_v vs 2) ≤ 7 := tv_rng t2
  obtain ⟨t3, hk⟩ := List.forall_mem_cons.mp hk
  have t3 : tv_ok ta (0, 2, 8, []) (n_v vs 3) := t3
  have k3 : 2 ≤ v_iv (n_v vs 3) ∧ v_iv (n_v vs 3) ≤ 8 := tv_rng t3
  obtain ⟨t4, hk⟩ := List.forall_mem_cons.mp hk
  have t4 : tv_ok ta (2, 0, 0, [152]) (n_v vs 4) := t4
  have r4 : ta (v_ad (n_v vs 4)) = some 152 := tv_rg t4
  obtain ⟨t5, hk⟩ := List.forall_mem_cons.mp hk
  have t5 : tv_ok ta (0, 0, 66297, []) (n_v vs 5) := t5
  have k5 : 0 ≤ v_iv (n_v vs 5) ∧ v_iv (n_v vs 5) ≤ 66297 := tv_rng t5
  have hds : ∀ q ∈ ([(2, 3, -4294967296, -1)] : List of_T), n_iv vs q.2.1 + q.2.2.1 ≤ n_iv vs q.1 ∧ n_iv vs q.1 ≤ n_iv vs q.2.1 + q.2.2.2 := hds
  obtain ⟨d0, hds⟩ := List.forall_mem_cons.mp hds
  have d0 : v_iv (n_v vs 3) + (-4294967296) ≤ v_iv (n_v vs 2) ∧ v_iv (n_v vs 2) ≤ v_iv (n_v vs 3) + (-1) := d0
  have hf : fc_ok [(9, [5, 0], [5]), (9, [4, 0], [2]), (7, [2, 3], [2]), (20, [3, 0], [30, 0, 1, 0, 0, -1, 3, 2005002]), (20, [3, 0], [30, 0, -1, 0, 0, 1, 3, 2005002]), (20, [0, 2], [30, 0, 1, 1, 132, -1, 0, 0])] ta ws vs := hf
  obtain ⟨f0, hf⟩ := fc_un (show (9 : Nat) < 100 from by decide) hf
  have f0 : n_v vs 5 = w_fd ws (v_ad (n_v vs 0)) 5 := f0
  obtain ⟨f1, hf⟩ := fc_un (show (9 : Nat) < 100 from by decide) hf
  have f1 : n_v vs 4 = w_fd ws (v_ad (n_v vs 0)) 2 := f1
  obtain ⟨f2, hf⟩ := fc_un (show (7 : Nat) < 100 from by decide) hf
  have f2 : v_iv (n_v vs 2) < v_iv (n_v vs 3) := f2
  obtain ⟨f3, hf⟩ := fc_un (show (20 : Nat) < 100 from by decide) hf
  have f3 : 1 * v_iv (n_v vs 3) + ((-1) * w_el ws (w_ar ws (n_v vs 0) 2) (w_fi ws (n_v vs 0) 5 + 2).toNat + 0) ≤ 0 := f3
  obtain ⟨f4, hf⟩ := fc_un (show (20 : Nat) < 100 from by decide) hf
  have f4 : (-1) * v_iv (n_v vs 3) + (1 * w_el ws (w_ar ws (n_v vs 0) 2) (w_fi ws (n_v vs 0) 5 + 2).toNat + 0) ≤ 0 := f4
  obtain ⟨f5, hf⟩ := fc_un (show (20 : Nat) < 100 from by decide) hf
  have f5 : 1 * w_fi ws (n_v vs 0) 132 + ((-1) * v_iv (n_v vs 2) + 0) ≤ 0 := f5
  have cr_0_2 : ta (w_ar ws (n_v vs 0) 2) = some 152 := tv_rg (th_fd hD hth r0 (g := GG_150) rfl (k := 2) (t := (2, 0, 0, [152])) rfl rfl)
  have ad_4 : v_ad (n_v vs 4) = w_ar ws (n_v vs 0) 2 := congrArg v_ad f1
  have g0 : v_iv (n_v vs 5) = w_fi ws (n_v vs 0) 5 := congrArg v_iv f0
  have kz_0_132 : 0 ≤ w_fi ws (n_v vs 0) 132 ∧ w_fi ws (n_v vs 0) 132 ≤ 40 := tv_rng (th_fd hD hth r0 (g := GG_150) rfl (k := 132) (t := (0, 0, 40, [])) rfl rfl)
  have kv0 : 0 ≤ w_fi ws (n_v vs 0) 132 ∧ w_fi ws (n_v vs 0) 132 ≤ 40 := tv_rng (th_fd hD hth r0 (g := GG_150) rfl (k := 132) (t := (0, 0, 40, [])) rfl rfl)
  obtain ⟨x, ex, hx⟩ := iv_ex (ta := ta) (lo := 0) (hi := 39) (z := w_fi ws (n_v vs 0) 132) (by omega) (by omega) (by omega) (by omega)
  have ex2 : v_iv (Value.int x) = w_fi ws (n_v vs 0) 132 := ex
  have ex3 : 0 ≤ v_iv (Value.int x) ∧ v_iv (Value.int x) ≤ 39 := tv_rng hx
  have e_0 : n_v (vs ++ [Value.int x]) 0 = n_v vs 0 := n_v_old (by rw [hl]; decide)
  have e_2 : n_v (vs ++ [Value.int x]) 2 = n_v vs 2 := n_v_old (by rw [hl]; decide)
  have e_14 : n_v (vs ++ [Value.int x]) 14 = Value.int x := n_v_new hl
  have nf0 : fc_1 (20, [0, 14], [30, 0, 1, 1, 132, -1, 0, 0]) ws (vs ++ [Value.int x]) := by
    refine ⟨fun n hn => ?_, ?_⟩
    · have hn : n ∈ [0, 14] := hn
      rw [List.length_append, hl]
      simp only [List.mem_cons, List.not_mem_nil, or_false] at hn
      show n < 14 + 1; omega
    · show 1 * w_fi ws (n_v (vs ++ [Value.int x]) 0) 132 + ((-1) * v_iv (n_v (vs ++ [Value.int x]) 14) + 0) ≤ 0
      rw [e_0]
      rw [e_14]
      omega
  have nf1 : fc_1 (23, [14, 2], [0, 1, -1]) ws (vs ++ [Value.int x]) := by
    refine ⟨fun n hn => ?_, ?_⟩
    · have hn : n ∈ [14, 2] := hn
      rw [List.length_append, hl]
      simp only [List.mem_cons, List.not_mem_nil, or_false] at hn
      show n < 14 + 1; omega
    · show 1 * v_iv (n_v (vs ++ [Value.int x]) 14) + ((-1) * v_iv (n_v (vs ++ [Value.int x]) 2) + 0) ≤ 0
      rw [e_2]
      rw [e_14]
      omega
  exact ⟨(fun _ h => (by cases h)), [Value.int x], ag_one hx, List.forall_mem_cons.mpr ⟨⟨show (20 : Nat) < 100 from by decide, nf0⟩, List.forall_mem_cons.mpr ⟨⟨show (23 : Nat) < 100 from by decide, nf1⟩, (fun _ h => (by cases h))⟩⟩, (fun _ h => (by cases h))⟩
def o_Mo_gather_5 : or_T := (7, 16, [(0, (2, 0, 0, [150])), (2, (0, 1, 7, [])), (3, (0, 2, 8, [])), (14, (0, 0, 39, [])), (15, (0, 2, 8, []))], [(6, [15, 2], [1]), (23, [14, 2], [0, 1, -1]), (20, [3, 0], [30, 0, 1, 0, 0, -1, 3, 2005002]), (20, [3, 0], [30, 0, -1, 0, 0, 1, 3, 2005002]), (20, [0, 14], [30, 1, 1, 1, 132, -1, 0, 0]), (102, [14], [169617318218724895639996560071320177519438454100059419979674195324091498496, 13132]), (23, [14, 2], [0, 1, -1]), (7, [2, 3], [2])], [], [], [(20, [0, 15], [30, 0, 1, 1, 132, -1, 0, 0])], [], [(15, 2, 1, 1), (15, 3, -4294967296, 0), (2, 3, -4294967296, -1)])
theorem oo_Mo_gather_5 {kA : Nat → ClassId} : or_ok kA GG o_Mo_gather_5 := by
  intro A ta ws vs hD hth hl hk hds hf
  have hl : vs.length = 16 := hl
  have hk : ∀ q ∈ ([(0, (2, 0, 0, [150])), (2, (0, 1, 7, [])), (3, (0, 2, 8, [])), (14, (0, 0, 39, [])), (15, (0, 2, 8, []))] : List (Nat × tv_T)), tv_ok ta q.2 (n_v vs q.1) := hk
  obtain ⟨t0, hk⟩ := List.forall_mem_cons.mp hk
  have t0 : tv_ok ta (2, 0, 0, [150]) (n_v vs 0) := t0
  have r0 : ta (v_ad (n_v vs 0)) = some 150 := tv_rg t0
  obtain ⟨t2, hk⟩ := List.forall_mem_cons.mp hk
  have t2 : tv_ok ta (0, 1, 7, []) (n_v vs 2) := t2
  have k2 : 1 ≤ v_iv (n_v vs 2) ∧ v_iv (n_v vs 2) ≤ 7 := tv_rng t2
  obtain ⟨t3, hk⟩ := List.forall_mem_cons.mp hk
  have t3 : tv_ok ta (0, 2, 8, []) (n_v vs 3) := t3
  have k3 : 2 ≤ v_iv (n_v vs 3) ∧ v_iv (n_v vs 3) ≤ 8 := tv_rng t3
  obtain ⟨t14, hk⟩ := List.forall_mem_cons.mp hk
  have t14 : tv_ok ta (0, 0, 39, []) (n_v vs 14) := t14
  have k14 : 0 ≤ v_iv (n_v vs 14) ∧ v_iv (n_v vs 14) ≤ 39 := tv_rng t14
  obtain ⟨t15, hk⟩ := List.forall_mem_cons.mp hk
  have t15 : tv_ok ta (0, 2, 8, []) (n_v vs 15) := t15
  have k15 : 2 ≤ v_iv (n_v vs 15) ∧ v_iv (n_v vs 15) ≤ 8 := tv_rng t15
  have hds : ∀ q ∈ ([(15, 2, 1, 1), (15, 3, -4294967296, 0), (2, 3, -4294967296, -1)] : List of_T), n_iv vs q.2.1 + q.2.2.1 ≤ n_iv vs q.1 ∧ n_iv vs q.1 ≤ n_iv vs q.2.1 + q.2.2.2 := hds
  obtain ⟨d0, hds⟩ := List.forall_mem_cons.mp hds
  have d0 : v_iv (n_v vs 2) + 1 ≤ v_iv (n_v vs 15) ∧ v_iv (n_v vs 15) ≤ v_iv (n_v vs 2) + 1 := d0
  obtain ⟨d1, hds⟩ := List.forall_mem_cons.mp hds
  have d1 : v_iv (n_v vs 3) + (-4294967296) ≤ v_iv (n_v vs 15) ∧ v_iv (n_v vs 15) ≤ v_iv (n_v vs 3) + 0 := d1
  obtain ⟨d2, hds⟩ := List.forall_mem_cons.mp hds
  have d2 : v_iv (n_v vs 3) + (-4294967296) ≤ v_iv (n_v vs 2) ∧ v_iv (n_v vs 2) ≤ v_iv (n_v vs 3) + (-1) := d2
  have hf : fc_ok [(6, [15, 2], [1]), (23, [14, 2], [0, 1, -1]), (20, [3, 0], [30, 0, 1, 0, 0, -1, 3, 2005002]), (20, [3, 0], [30, 0, -1, 0, 0, 1, 3, 2005002]), (20, [0, 14], [30, 1, 1, 1, 132, -1, 0, 0]), (102, [14], [169617318218724895639996560071320177519438454100059419979674195324091498496, 13132]), (23, [14, 2], [0, 1, -1]), (7, [2, 3], [2])] ta ws vs := hf
  obtain ⟨f0, hf⟩ := fc_un (show (6 : Nat) < 100 from by decide) hf
  have f0 : v_iv (n_v vs 15) = v_iv (n_v vs 2) + 1 := f0
  obtain ⟨f1, hf⟩ := fc_un (show (23 : Nat) < 100 from by decide) hf
  have f1 : 1 * v_iv (n_v vs 14) + ((-1) * v_iv (n_v vs 2) + 0) ≤ 0 := f1
  obtain ⟨f2, hf⟩ := fc_un (show (20 : Nat) < 100 from by decide) hf
  have f2 : 1 * v_iv (n_v vs 3) + ((-1) * w_el ws (w_ar ws (n_v vs 0) 2) (w_fi ws (n_v vs 0) 5 + 2).toNat + 0) ≤ 0 := f2
  obtain ⟨f3, hf⟩ := fc_un (show (20 : Nat) < 100 from by decide) hf
  have f3 : (-1) * v_iv (n_v vs 3) + (1 * w_el ws (w_ar ws (n_v vs 0) 2) (w_fi ws (n_v vs 0) 5 + 2).toNat + 0) ≤ 0 := f3
  obtain ⟨f4, hf⟩ := fc_un (show (20 : Nat) < 100 from by decide) hf
  have f4 : 1 * w_fi ws (n_v vs 0) 132 + ((-1) * v_iv (n_v vs 14) + 0) ≤ 1 := f4
  obtain ⟨ta1, w1, le1, ⟨_, s1⟩, hf⟩ := fc_us (show ¬ (102 : Nat) < 100 from by decide) hf
  obtain ⟨f6, hf⟩ := fc_un (show (23 : Nat) < 100 from by decide) hf
  have f6 : 1 * v_iv (n_v vs 14) + ((-1) * v_iv (n_v vs 2) + 0) ≤ 0 := f6
  obtain ⟨f7, hf⟩ := fc_un (show (7 : Nat) < 100 from by decide) hf
  have f7 : v_iv (n_v vs 2) < v_iv (n_v vs 3) := f7
  have cr_0_2 : ta (w_ar ws (n_v vs 0) 2) = some 152 := tv_rg (th_fd hD hth r0 (g := GG_150) rfl (k := 2) (t := (2, 0, 0, [152])) rfl rfl)
  have kz_0_132 : 0 ≤ w_fi ws (n_v vs 0) 132 ∧ w_fi ws (n_v vs 0) 132 ≤ 40 := tv_rng (th_fd hD hth r0 (g := GG_150) rfl (k := 132) (t := (0, 0, 40, [])) rfl rfl)
  have nf0 : fc_1 (20, [0, 15], [30, 0, 1, 1, 132, -1, 0, 0]) ws (vs) := by
    refine ⟨fun n hn => ?_, ?_⟩
    · have hn : n ∈ [0, 15] := hn
      rw [hl]
      simp only [List.mem_cons, List.not_mem_nil, or_false] at hn
      show n < 16; omega
    · show 1 * w_fi ws (n_v vs 0) 132 + ((-1) * v_iv (n_v vs 15) + 0) ≤ 0
      omega
  refine ⟨(fun _ h => (by cases h)), [], trivial, ?_, (fun _ h => (by cases h))⟩
  rw [List.append_nil]
  exact List.forall_mem_cons.mpr ⟨⟨show (20 : Nat) < 100 from by decide, nf0⟩, (fun _ h => (by cases h))⟩
def o_Mo_gather_6 : or_T := (63, 6, [(0, (2, 0, 0, [150])), (2, (0, 0, 23, [])), (3, (0, 1, 24, [])), (5, (0, 1, 24, []))], [(6, [5, 2], [1]), (7, [2, 3], [2]), (20, [3, 0], [30, 0, 1, 0, 0, -1, 3, 2005000]), (20, [3, 0], [30, 0, -1, 0, 0, 1, 3, 2005000]), (20, [0, 2], [30, 8, 1, 1, 132, -1, 0, 0])], [], [], [(20, [0, 5], [30, 8, 1, 1, 132, -1, 0, 0])], [], [(5, 2, 1, 1), (5, 3, -4294967296, 0), (2, 3, -4294967296, -1)])
theorem oo_Mo_gather_6 {kA : Nat → ClassId} : or_ok kA GG o_Mo_gather_6 := by
  intro A ta ws vs hD hth hl hk hds hf
  have hl : vs.length = 6 := hl
  have hk : ∀ q ∈ ([(0, (2, 0, 0, [150])), (2, (0, 0, 23, [])), (3, (0, 1, 24, [])), (5, (0, 1, 24, []))] : List (Nat × tv_T)), tv_ok ta q.2 (n_v vs q.1) := hk
  obtain ⟨t0, hk⟩ := List.forall_mem_cons.mp hk
  have t0 : tv_ok ta (2, 0, 0, [150]) (n_v vs 0) := t0
  have r0 : ta (v_ad (n_v vs 0)) = some 150 := tv_rg t0
  obtain ⟨t2, hk⟩ := List.forall_mem_cons.mp hk
  have t2 : tv_ok ta (0, 0, 23, []) (n_v vs 2) := t2
  have k2 : 0 ≤ v_iv (n_v vs 2) ∧ v_iv (n_v vs 2) ≤ 23 := tv_rng t2
  obtain ⟨t3, hk⟩ := List.forall_mem_cons.mp hk
  have t3 : tv_ok ta (0, 1, 24, []) (n_v vs 3) := t3
  have k3 : 1 ≤ v_iv (n_v vs 3) ∧ v_iv (n_v vs 3) ≤ 24 := tv_rng t3
  obtain ⟨t5, hk⟩ := List.forall_mem_cons.mp hk
  have t5 : tv_ok ta (0, 1, 24, []) (n_v vs 5) := t5
  have k5 : 1 ≤ v_iv (n_v vs 5) ∧ v_iv (n_v vs 5) ≤ 24 := tv_rng t5
  have hds : ∀ q ∈ ([(5, 2, 1, 1), (5, 3, -4294967296, 0), (2, 3, -4294967296, -1)] : List of_T), n_iv vs q.2.1 + q.2.2.1 ≤ n_iv vs q.1 ∧ n_iv vs q.1 ≤ n_iv vs q.2.1 + q.2.2.2 := hds
  obtain ⟨d0, hds⟩ := List.forall_mem_cons.mp hds
  have d0 : v_iv (n_v vs 2) + 1 ≤ v_iv (n_v vs 5) ∧ v_iv (n_v vs 5) ≤ v_iv (n_v vs 2) + 1 := d0
  obtain ⟨d1, hds⟩ := List.forall_mem_cons.mp hds
  have d1 : v_iv (n_v vs 3) + (-4294967296) ≤ v_iv (n_v vs 5) ∧ v_iv (n_v vs 5) ≤ v_iv (n_v vs 3) + 0 := d1
  obtain ⟨d2, hds⟩ := List.forall_mem_cons.mp hds
  have d2 : v_iv (n_v vs 3) + (-4294967296) ≤ v_iv (n_v vs 2) ∧ v_iv (n_v vs 2) ≤ v_iv (n_v vs 3) + (-1) := d2
  have hf : fc_ok [(6, [5, 2], [1]), (7, [2, 3], [2]), (20, [3, 0], [30, 0, 1, 0, 0, -1, 3, 2005000]), (20, [3, 0], [30, 0, -1, 0, 0, 1, 3, 2005000]), (20, [0, 2], [30, 8, 1, 1, 132, -1, 0, 0])] ta ws vs := hf
  obtain ⟨f0, hf⟩ := fc_un (show (6 : Nat) < 100 from by decide) hf
  have f0 : v_iv (n_v vs 5) = v_iv (n_v vs 2) + 1 := f0
  obtain ⟨f1, hf⟩ := fc_un (show (7 : Nat) < 100 from by decide) hf
  have f1 : v_iv (n_v vs 2) < v_iv (n_v vs 3) := f1
  obtain ⟨f2, hf⟩ := fc_un (show (20 : Nat) < 100 from by decide) hf
  have f2 : 1 * v_iv (n_v vs 3) + ((-1) * w_el ws (w_ar ws (n_v vs 0) 2) (w_fi ws (n_v vs 0) 5 + 0).toNat + 0) ≤ 0 := f2
  obtain ⟨f3, hf⟩ := fc_un (show (20 : Nat) < 100 from by decide) hf
  have f3 : (-1) * v_iv (n_v vs 3) + (1 * w_el ws (w_ar ws (n_v vs 0) 2) (w_fi ws (n_v vs 0) 5 + 0).toNat + 0) ≤ 0 := f3
  obtain ⟨f4, hf⟩ := fc_un (show (20 : Nat) < 100 from by decide) hf
  have f4 : 1 * w_fi ws (n_v vs 0) 132 + ((-1) * v_iv (n_v vs 2) + 0) ≤ 8 := f4
  have cr_0_2 : ta (w_ar ws (n_v vs 0) 2) = some 152 := tv_rg (th_fd hD hth r0 (g := GG_150) rfl (k := 2) (t := (2, 0, 0, [152])) rfl rfl)
  have kz_0_132 : 0 ≤ w_fi ws (n_v vs 0) 132 ∧ w_fi ws (n_v vs 0) 132 ≤ 40 := tv_rng (th_fd hD hth r0 (g := GG_150) rfl (k := 132) (t := (0, 0, 40, [])) rfl rfl)
  have nf0 : fc_1 (20, [0, 5], [30, 8, 1, 1, 132, -1, 0, 0]) ws (vs) := by
    refine ⟨fun n hn => ?_, ?_⟩
    · have hn : n ∈ [0, 5] := hn
      rw [hl]
      simp only [List.mem_cons, List.not_mem_nil, or_false] at hn
      show n < 6; omega
    · show 1 * w_fi ws (n_v vs 0) 132 + ((-1) * v_iv (n_v vs 5) + 0) ≤ 8
      omega
  refine ⟨(fun _ h => (by cases h)), [], trivial, ?_, (fun _ h => (by cases h))⟩
  rw [List.append_nil]
  exact List.forall_mem_cons.mpr ⟨⟨show (20 : Nat) < 100 from by decide, nf0⟩, (fun _ h => (by cases h))⟩
def o_Mo_gather_7 : or_T := (87, 6, [(0, (2, 0, 0, [150])), (2, (0, 0, 23, [])), (3, (0, 1, 24, []))], [(7, [2, 3], [2]), (20, [3, 0], [30, 0, 1, 0, 0, -1, 3, 2005000]), (20, [3, 0], [30, 0, -1, 0, 0, 1, 3, 2005000]), (20, [0, 2], [30, 8, 1, 1, 132, -1, 0, 0])], [], [(0, 0, 39, [])], [(20, [0, 6], [30, 0, 1, 1, 132, -1, 0, 0]), (23, [6, 2], [8, 1, -1])], [], [(2, 3, -4294967296, -1)])
theorem oo_Mo_gather_7 {kA : Nat → ClassId} : or_ok kA GG o_Mo_gather_7 := by
  intro A ta ws vs hD hth hl hk hds hf
  have hl : vs.length = 6 := hl
  have hk : ∀ q ∈ ([(0, (2, 0, 0, [150])), (2, (0, 0, 23, [])), (3, (0, 1, 24, []))] : List (Nat × tv_T)), tv_ok ta q.2 (n_v vs q.1) := hk
  obtain ⟨t0, hk⟩ := List.forall_mem_cons.mp hk
  have t0 : tv_ok ta (2, 0, 0, [150]) (n_v vs 0) := t0
  have r0 : ta (v_ad (n_v vs 0)) = some 150 := tv_rg t0
  obtain ⟨t2, hk⟩ := List.forall_mem_cons.mp hk
  have t2 : tv_ok ta (0, 0, 23, []) (n_v vs 2) := t2
  have k2 : 0 ≤ v_iv (n_v vs 2) ∧ v_iv (n_v vs 2) ≤ 23 := tv_rng t2
  obtain ⟨t3, hk⟩ := List.forall_mem_cons.mp hk
  have t3 : tv_ok ta (0, 1, 24, []) (n_v vs 3) := t3
  have k3 : 1 ≤ v_iv (n_v vs 3) ∧ v_iv (n_v vs 3) ≤ 24 := tv_rng t3
  have hds : ∀ q ∈ ([(2, 3, -4294967296, -1)] : List of_T), n_iv vs q.2.1 + q.2.2.1 ≤ n_iv vs q.1 ∧ n_iv vs q.1 ≤ n_iv vs q.2.1 + q.2.2.2 := hds
  obtain ⟨d0, hds⟩ := List.forall_mem_cons.mp hds
  have d0 : v_iv (n_v vs 3) + (-4294967296) ≤ v_iv (n_v vs 2) ∧ v_iv (n_v vs 2) ≤ v_iv (n_v vs 3) + (-1) := d0
  have hf : fc_ok [(7, [2, 3], [2]), (20, [3, 0], [30, 0, 1, 0, 0, -1, 3, 2005000]), (20, [3, 0], [30, 0, -1, 0, 0, 1, 3, 2005000]), (20, [0, 2], [30, 8, 1, 1, 132, -1, 0, 0])] ta ws vs := hf
  obtain ⟨f0, hf⟩ := fc_un (show (7 : Nat) < 100 from by decide) hf
  have f0 : v_iv (n_v vs 2) < v_iv (n_v vs 3) := f0
  obtain ⟨f1, hf⟩ := fc_un (show (20 : Nat) < 100 from by decide) hf
  have f1 : 1 * v_iv (n_v vs 3) + ((-1) * w_el ws (w_ar ws (n_v vs 0) 2) (w_fi ws (n_v vs 0) 5 + 0).toNat + 0) ≤ 0 := f1
  obtain ⟨f2, hf⟩ := fc_un (show (20 : Nat) < 100 from by decide) hf
  have f2 : (-1) * v_iv (n_v vs 3) + (1 * w_el ws (w_ar ws (n_v vs 0) 2) (w_fi ws (n_v vs 0) 5 + 0).toNat + 0) ≤ 0 := f2
  obtain ⟨f3, hf⟩ := fc_un (show (20 : Nat) < 100 from by decide) hf
  have f3 : 1 * w_fi ws (n_v vs 0) 132 + ((-1) * v_iv (n_v vs 2) + 0) ≤ 8 := f3
  have cr_0_2 : ta (w_ar ws (n_v vs 0) 2) = some 152 := tv_rg (th_fd hD hth r0 (g := GG_150) rfl (k := 2) (t := (2, 0, 0, [152])) rfl rfl)
  have kz_0_132 : 0 ≤ w_fi ws (n_v vs 0) 132 ∧ w_fi ws (n_v vs 0) 132 ≤ 40 := tv_rng (th_fd hD hth r0 (g := GG_150) rfl (k := 132) (t := (0, 0, 40, [])) rfl rfl)
  have kv0 : 0 ≤ w_fi ws (n_v vs 0) 132 ∧ w_fi ws (n_v vs 0) 132 ≤ 40 := tv_rng (th_fd hD hth r0 (g := GG_150) rfl (k := 132) (t := (0, 0, 40, [])) rfl rfl)
  obtain ⟨x, ex, hx⟩ := iv_ex (ta := ta) (lo := 0) (hi := 39) (z := w_fi ws (n_v vs 0) 132) (by omega) (by omega) (by omega) (by omega)
  have ex2 : v_iv (Value.int x) = w_fi ws (n_v vs 0) 132 := ex
  have ex3 : 0 ≤ v_iv (Value.int x) ∧ v_iv (Value.int x) ≤ 39 := tv_rng hx
  have e_0 : n_v (vs ++ [Value.int x]) 0 = n_v vs 0 := n_v_old (by rw [hl]; decide)
  have e_2 : n_v (vs ++ [Value.int x]) 2 = n_v vs 2 := n_v_old (by rw [hl]; decide)
  have e_6 : n_v (vs ++ [Value.int x]) 6 = Value.int x := n_v_new hl
  have nf0 : fc_1 (20, [0, 6], [30, 0, 1, 1, 132, -1, 0, 0]) ws (vs ++ [Value.int x]) := by
    refine ⟨fun n hn => ?_, ?_⟩
    · have hn : n ∈ [0, 6] := hn
      rw [List.length_append, hl]
      simp only [List.mem_cons, List.not_mem_nil, or_false] at hn
      show n < 6 + 1; omega
    · show 1 * w_fi ws (n_v (vs ++ [Value.int x]) 0) 132 + ((-1) * v_iv (n_v (vs ++ [Value.int x]) 6) + 0) ≤ 0
      rw [e_0]
      rw [e_6]
      omega
  have nf1 : fc_1 (23, [6, 2], [8, 1, -1]) ws (vs ++ [Value.int x]) := by
    refine ⟨fun n hn => ?_, ?_⟩
    · have hn : n ∈ [6, 2] := hn
      rw [List.length_append, hl]
      simp only [List.mem_cons, List.not_mem_nil, or_false] at hn
      show n < 6 + 1; omega
    · show 1 * v_iv (n_v (vs ++ [Value.int x]) 6) + ((-1) * v_iv (n_v (vs ++ [Value.int x]) 2) + 0) ≤ 8
      rw [e_2]
      rw [e_6]
      omega
  exact ⟨(fun _ h => (by cases h)), [Value.int x], ag_one hx, List.forall_mem_cons.mpr ⟨⟨show (20 : Nat) < 100 from by decide, nf0⟩, List.forall_mem_cons.mpr ⟨⟨show (23 : Nat) < 100 from by decide, nf1⟩, (fun _ h => (by cases h))⟩⟩, (fun _ h => (by cases h))⟩
def o_Mo_gather_8 : or_T := (63, 8, [(0, (2, 0, 0, [150])), (2, (0, 0, 23, [])), (3, (0, 1, 24, [])), (6, (0, 0, 39, [])), (7, (0, 1, 24, []))], [(6, [7, 2], [1]), (23, [6, 2], [8, 1, -1]), (20, [3, 0], [30, 0, 1, 0, 0, -1, 3, 2005000]), (20, [3, 0], [30, 0, -1, 0, 0, 1, 3, 2005000]), (20, [0, 6], [30, 1, 1, 1, 132, -1, 0, 0]), (102, [6], [169617318218724895639996560071320177519438454100059419979674195324091498496, 13132]), (23, [6, 2], [8, 1, -1]), (7, [2, 3], [2])], [], [], [(20, [0, 7], [30, 8, 1, 1, 132, -1, 0, 0])], [], [(7, 2, 1, 1), (7, 3, -4294967296, 0), (2, 3, -4294967296, -1)])
theorem oo_Mo_gather_8 {kA : Nat → ClassId} : or_ok kA GG o_Mo_gather_8 := by
  intro A ta ws vs hD hth hl hk hds hf
  have hl : vs.length = 8 := hl
  have hk : ∀ q ∈ ([(0, (2, 0, 0, [150])), (2, (0, 0, 23, [])), (3, (0, 1, 24, [])), (6, (0, 0, 39, [])), (7, (0, 1, 24, []))] : List (Nat × tv_T)), tv_ok ta q.2 (n_v vs q.1) := hk
  obtain ⟨t0, hk⟩ := List.forall_mem_cons.mp hk
  have t0 : tv_ok ta (2, 0, 0, [150]) (n_v vs 0) := t0
  have r0 : ta (v_ad (n_v vs 0)) = some 150 := tv_rg t0
  obtain ⟨t2, hk⟩ := List.forall_mem_cons.mp hk
  have t2 : tv_ok ta (0, 0, 23, []) (n_v vs 2) := t2
  have k2 : 0 ≤ v_iv (n_v vs 2) ∧ v_iv (n_v vs 2) ≤ 23 := tv_rng t2
  obtain ⟨t3, hk⟩ := List.forall_mem_cons.mp hk
  have t3 : tv_ok ta (0, 1, 24, []) (n_v vs 3) := t3
  have k3 : 1 ≤ v_iv (n_v vs 3) ∧ v_iv (n_v vs 3) ≤ 24 := tv_rng t3
  obtain ⟨t6, hk⟩ := List.forall_mem_cons.mp hk
  have t6 : tv_ok ta (0, 0, 39, []) (n_v vs 6) := t6
  have k6 : 0 ≤ v_iv (n_v vs 6) ∧ v_iv (n_v vs 6) ≤ 39 := tv_rng t6
  obtain ⟨t7, hk⟩ := List.forall_mem_cons.mp hk
  have t7 : tv_ok ta (0, 1, 24, []) (n_v vs 7) := t7
  have k7 : 1 ≤ v_iv (n_v vs 7) ∧ v_iv (n_v vs 7) ≤ 24 := tv_rng t7
  have hds : ∀ q ∈ ([(7, 2, 1, 1), (7, 3, -4294967296, 0), (2, 3, -4294967296, -1)] : List of_T), n_iv vs q.2.1 + q.2.2.1 ≤ n_iv vs q.1 ∧ n_iv vs q.1 ≤ n_iv vs q.2.1 + q.2.2.2 := hds
  obtain ⟨d0, hds⟩ := List.forall_mem_cons.mp hds
  have d0 : v_iv (n_v vs 2) + 1 ≤ v_iv (n_v vs 7) ∧ v_iv (n_v vs 7) ≤ v_iv (n_v vs 2) + 1 := d0
  obtain ⟨d1, hds⟩ := List.forall_mem_cons.mp hds
  have d1 : v_iv (n_v vs 3) + (-4294967296) ≤ v_iv (n_v vs 7) ∧ v_iv (n_v vs 7) ≤ v_iv (n_v vs 3) + 0 := d1
  obtain ⟨d2, hds⟩ := List.forall_mem_cons.mp hds
  have d2 : v_iv (n_v vs 3) + (-4294967296) ≤ v_iv (n_v vs 2) ∧ v_iv (n_v vs 2) ≤ v_iv (n_v vs 3) + (-1) := d2
  have hf : fc_ok [(6, [7, 2], [1]), (23, [6, 2], [8, 1, -1]), (20, [3, 0], [30, 0, 1, 0, 0, -1, 3, 2005000]), (20, [3, 0], [30, 0, -1, 0, 0, 1, 3, 2005000]), (20, [0, 6], [30, 1, 1, 1, 132, -1, 0, 0]), (102, [6], [169617318218724895639996560071320177519438454100059419979674195324091498496, 13132]), (23, [6, 2], [8, 1, -1]), (7, [2, 3], [2])] ta ws vs := hf
  obtain ⟨f0, hf⟩ := fc_un (show (6 : Nat) < 100 from by decide) hf
  have f0 : v_iv (n_v vs 7) = v_iv (n_v vs 2) + 1 := f0
  obtain ⟨f1, hf⟩ := fc_un (show (23 : Nat) < 100 from by decide) hf
  have f1 : 1 * v_iv (n_v vs 6) + ((-1) * v_iv (n_v vs 2) + 0) ≤ 8 := f1
  obtain ⟨f2, hf⟩ := fc_un (show (20 : Nat) < 100 from by decide) hf
  have f2 : 1 * v_iv (n_v vs 3) + ((-1) * w_el ws (w_ar ws (n_v vs 0) 2) (w_fi ws (n_v vs 0) 5 + 0).toNat + 0) ≤ 0 := f2
  obtain ⟨f3, hf⟩ := fc_un (show (20 : Nat) < 100 from by decide) hf
  have f3 : (-1) * v_iv (n_v vs 3) + (1 * w_el ws (w_ar ws (n_v vs 0) 2) (w_fi ws (n_v vs 0) 5 + 0).toNat + 0) ≤ 0 := f3
  obtain ⟨f4, hf⟩ := fc_un (show (20 : Nat) < 100 from by decide) hf
  have f4 : 1 * w_fi ws (n_v vs 0) 132 + ((-1) * v_iv (n_v vs 6) + 0) ≤ 1 := f4
  obtain ⟨ta1, w1, le1, ⟨_, s1⟩, hf⟩ := fc_us (show ¬ (102 : Nat) < 100 from by decide) hf
  obtain ⟨f6, hf⟩ := fc_un (show (23 : Nat) < 100 from by decide) hf
  have f6 : 1 * v_iv (n_v vs 6) + ((-1) * v_iv (n_v vs 2) + 0) ≤ 8 := f6
  obtain ⟨f7, hf⟩ := fc_un (show (7 : Nat) < 100 from by decide) hf
  have f7 : v_iv (n_v vs 2) < v_iv (n_v vs 3) := f7
  have cr_0_2 : ta (w_ar ws (n_v vs 0) 2) = some 152 := tv_rg (th_fd hD hth r0 (g := GG_150) rfl (k := 2) (t := (2, 0, 0, [152])) rfl rfl)
  have kz_0_132 : 0 ≤ w_fi ws (n_v vs 0) 132 ∧ w_fi ws (n_v vs 0) 132 ≤ 40 := tv_rng (th_fd hD hth r0 (g := GG_150) rfl (k := 132) (t := (0, 0, 40, [])) rfl rfl)
  have nf0 : fc_1 (20, [0, 7], [30, 8, 1, 1, 132, -1, 0, 0]) ws (vs) := by
    refine ⟨fun n hn => ?_, ?_⟩
    · have hn : n ∈ [0, 7] := hn
      rw [hl]
      simp only [List.mem_cons, List.not_mem_nil, or_false] at hn
      show n < 8; omega
    · show 1 * w_fi ws (n_v vs 0) 132 + ((-1) * v_iv (n_v vs 7) + 0) ≤ 8
      omega
  refine ⟨(fun _ h => (by cases h)), [], trivial, ?_, (fun _ h => (by cases h))⟩
  rw [List.append_nil]
  exact List.forall_mem_cons.mpr ⟨⟨show (20 : Nat) < 100 from by decide, nf0⟩, (fun _ h => (by cases h))⟩
def n_Mo_gather_an : List an_T := [(7, [(0, (2, 0, 0, [150])), (1, (0, 0, 7, [])), (2, (0, 1, 8, []))], [], (0, 0), [(0, 0, 99993), (1, 2, 8), (0, 0, 100000)], [(1, 2, -1000000000000, 6)], [], [], 0, [], [(20, [0, 2], [30, 0, 1, 1, 132, -1, 0, 0])]), (63, [(0, (2, 0, 0, [150])), (1, (0, 0, 7, [])), (2, (0, 0, 24, []))], [], (0, 0), [(0, 0, 99937), (1, 2, 24), (0, 0, 100000)], [(1, 2, -1000000000000, 7)], [], [], 0, [], [(20, [0, 2], [30, 8, 1, 1, 132, -1, 0, 0])])]
def t_Mo_gather_ct : ct_L := [(1, 475, e_Mo_nodes), (1, 509, e_Mo_groups), (1, 723, e_Mo_size), (1, 725, e_Mo_groupOf), (1, 745, e_Mo_sizeOfGroup), (1, 974, e_Mo_gatherOne)]
set_option maxRecDepth 100000 in
theorem c_Mo_gather {l : Launch} {D : va_G} {kA : Nat → ClassId} (h_Mo_gatherOne : ct_ok l D kA GG y_Mo_gatherOne z_Mo_gatherOne e_Mo_gatherOne) (h_Mo_groupOf : ct_ok l D kA GG y_Mo_groupOf z_Mo_groupOf e_Mo_groupOf) (h_Mo_groups : ct_ok l D kA GG y_Mo_groups z_Mo_groups e_Mo_groups) (h_Mo_nodes : ct_ok l D kA GG y_Mo_nodes z_Mo_nodes e_Mo_nodes) (h_Mo_size : ct_ok l D kA GG y_Mo_size z_Mo_size e_Mo_size) (h_Mo_sizeOfGroup : ct_ok l D kA GG y_Mo_sizeOfGroup z_Mo_sizeOfGroup e_Mo_sizeOfGroup) : ct_ok l D kA GG y_Mo_gather z_Mo_gather e_Mo_gather := chk_all_ok (FT := [(16, 13, 2), (391, 13, 5)]) (PT := [(971, 13, 132, .int)]) (CT := t_Mo_gather_ct) (KT := []) (NT := []) (AN := n_Mo_gather_an) (OT := [o_Mo_gather_0, o_Mo_gather_1, o_Mo_gather_2, o_Mo_gather_3, o_Mo_gather_4, o_Mo_gather_5, o_Mo_gather_6, o_Mo_gather_7, o_Mo_gather_8]) 3 240 (List.forall_mem_cons.mpr ⟨oo_Mo_gather_0, List.forall_mem_cons.mpr ⟨oo_Mo_gather_1, List.forall_mem_cons.mpr ⟨oo_Mo_gather_2, List.forall_mem_cons.mpr ⟨oo_Mo_gather_3, List.forall_mem_cons.mpr ⟨oo_Mo_gather_4, List.forall_mem_cons.mpr ⟨oo_Mo_gather_5, List.forall_mem_cons.mpr ⟨oo_Mo_gather_6, List.forall_mem_cons.mpr ⟨oo_Mo_gather_7, List.forall_mem_cons.mpr ⟨oo_Mo_gather_8, List.forall_mem_nil _⟩⟩⟩⟩⟩⟩⟩⟩⟩) (by decide +kernel) ⟨List.forall_mem_cons.mpr ⟨gf_Mo_16, List.forall_mem_cons.mpr ⟨gf_Mo_391, List.forall_mem_nil _⟩⟩, List.forall_mem_cons.mpr ⟨pf_Mo_971, List.forall_mem_nil _⟩, List.forall_mem_cons.mpr ⟨cl_virtual (y := y_Mo_nodes) (ci := 13) rfl rfl ⟨_, _, rfl⟩ (by decide +kernel) h_Mo_nodes wm_3025 wm_9 wm_3022 wm_3024 wv_13_3 ⟨by decide, by decide, by decide +kernel⟩ (by decide), List.forall_mem_cons.mpr ⟨cl_virtual (y := y_Mo_groups) (ci := 13) rfl rfl ⟨_, _, rfl⟩ (by decide +kernel) h_Mo_groups wm_3070 wm_9 wm_3067 wm_3069 wv_13_14 ⟨by decide, by decide, by decide +kernel⟩ (by decide), List.forall_mem_cons.mpr ⟨cl_virtual (y := y_Mo_size) (ci := 13) rfl rfl ⟨_, _, rfl⟩ (by decide +kernel) h_Mo_size wm_3307 wm_9 wm_3304 wm_3306 wv_17_0 ⟨by decide, by decide, by decide +kernel⟩ (by decide), List.forall_mem_cons.mpr ⟨cl_virtual (y := y_Mo_groupOf) (ci := 13) rfl rfl ⟨_, _, rfl⟩ (by decide +kernel) h_Mo_groupOf wm_3311 wm_9 wm_3308 wm_3310 wv_17_1 ⟨by decide, by decide, by decide +kernel⟩ (by decide), List.forall_mem_cons.mpr ⟨cl_virtual (y := y_Mo_sizeOfGroup) (ci := 13) rfl rfl ⟨_, _, rfl⟩ (by decide +kernel) h_Mo_sizeOfGroup wm_3351 wm_9 wm_3348 wm_3350 wv_17_9 ⟨by decide, by decide, by decide +kernel⟩ (by decide), List.forall_mem_cons.mpr ⟨cl_virtual (y := y_Mo_gatherOne) (ci := 13) rfl rfl ⟨_, _, rfl⟩ (by decide +kernel) h_Mo_gatherOne wm_3596 wm_9 wm_3593 wm_3595 wv_21_2 ⟨by decide, by decide, by decide +kernel⟩ (by decide), List.forall_mem_nil _⟩⟩⟩⟩⟩⟩, List.forall_mem_nil _, List.forall_mem_nil _, GG_pl⟩ (by decide +kernel)
def n_Mo_middle_an : List an_T := [(11, [(0, (2, 0, 0, [150])), (1, (0, 0, 23, [])), (2, (0, -1000000, 1000000, [])), (3, (0, -1000000, 1000000, [])), (4, (0, 0, 80, []))], [], (0, 0), [(0, 0, 99989), (1, 4, 80), (0, 0, 100000)], [], [], [], 0, [], [])]
def t_Mo_middle_ct : ct_L := [(0, 547, e_Mo_min), (0, 855, e_Mo_max), (1, 600, e_Mo_at1), (1, 928, e_Mo_barX), (213, 931, e_jMath_floorDiv1_v37), (213, 931, e_jMath_floorDiv1_v75), (213, 931, e_jMath_floorDiv1_v76)]
set_option maxRecDepth 100000 in
theorem c_Mo_middle {l : Launch} {D : va_G} {kA : Nat → ClassId} (h_Mo_at1 : ct_ok l D kA GG y_Mo_at1 z_Mo_at1 e_Mo_at1) (h_Mo_barX : ct_ok l D kA GG y_Mo_barX z_Mo_barX e_Mo_barX) (h_Mo_max : ct_ok l D kA GG y_Mo_max z_Mo_max e_Mo_max) (h_Mo_min : ct_ok l D kA GG y_Mo_min z_Mo_min e_Mo_min) : ct_ok l D kA GG y_Mo_middle z_Mo_middle e_Mo_middle := chk_all_ok (FT := [(159, 13, 74), (597, 13, 32)]) (PT := []) (CT := t_Mo_middle_ct) (KT := [(1, 546, .int (1000000), (0, 1000000, 1000000, [])), (1, 776, .int (Int32.ofInt (-1000000)), (0, -1000000, -1000000, []))]) (NT := []) (AN := n_Mo_middle_an) (OT := []) 3 332 (List.forall_mem_nil _) (by decide +kernel) ⟨List.forall_mem_cons.mpr ⟨gf_Mo_159, List.forall_mem_cons.mpr ⟨gf_Mo_597, List.forall_mem_nil _⟩⟩, List.forall_mem_nil _, List.forall_mem_cons.mpr ⟨cl_static (y := y_Mo_min) h_Mo_min wm_3174 wm_9 wm_3172 wm_3173 ⟨by decide, by decide, by decide +kernel⟩ (by decide), List.forall_mem_cons.mpr ⟨cl_static (y := y_Mo_max) h_Mo_max wm_3430 wm_9 wm_3428 wm_3429 ⟨by decide, by decide, by decide +kernel⟩ (by decide), List.forall_mem_cons.mpr ⟨cl_virtual (y := y_Mo_at1) (ci := 13) rfl rfl ⟨_, _, rfl⟩ (by decide +kernel) h_Mo_at1 wm_3159 wm_9 wm_3156 wm_3158 wv_14_15 ⟨by decide, by decide, by decide +kernel⟩ (by decide), List.forall_mem_cons.mpr ⟨cl_virtual (y := y_Mo_barX) (ci := 13) rfl rfl ⟨_, _, rfl⟩ (by decide +kernel) h_Mo_barX wm_3555 wm_9 wm_3552 wm_3554 wv_20_8 ⟨by decide, by decide, by decide +kernel⟩ (by decide), List.forall_mem_cons.mpr ⟨cl_static (y := y_jMath_floorDiv1) c_jMath_floorDiv1_v37 wm_1617 wm_10 wm_3556 wm_1616 ⟨by decide, by decide, by decide +kernel⟩ (by decide), List.forall_mem_cons.mpr ⟨cl_static (y := y_jMath_floorDiv1) c_jMath_floorDiv1_v75 wm_1617 wm_10 wm_3556 wm_1616 ⟨by decide, by decide, by decide +kernel⟩ (by decide), List.forall_mem_cons.mpr ⟨cl_static (y := y_jMath_floorDiv1) c_jMath_floorDiv1_v76 wm_1617 wm_10 wm_3556 wm_1616 ⟨by decide, by decide, by decide +kernel⟩ (by decide), List.forall_mem_nil _⟩⟩⟩⟩⟩⟩⟩, List.forall_mem_cons.mpr ⟨kx_Mo_1_546, List.forall_mem_cons.mpr ⟨kx_Mo_1_776, List.forall_mem_nil _⟩⟩, List.forall_mem_nil _, GG_pl⟩ (by decide +kernel)
def o_Mo_ofNode_0 : or_T := (4, 3, [(0, (2, 0, 0, [150])), (2, (0, -1, 47, []))], [(9, [2, 0], [165]), (20, [0], [30, 0, -1, 1, 165]), (20, [0], [30, 23, 1, 1, 165])], [(2, (0, 0, 23, []))], [], [], [], [])
theorem oo_Mo_ofNode_0 {kA : Nat → ClassId} : or_ok kA GG o_Mo_ofNode_0 := by
  intro A ta ws vs hD hth hl hk hds hf
  have hl : vs.length = 3 := hl
  have hk : ∀ q ∈ ([(0, (2, 0, 0, [150])), (2, (0, -1, 47, []))] : List (Nat × tv_T)), tv_ok ta q.2 (n_v vs q.1) := hk
  obtain ⟨t0, hk⟩ := List.forall_mem_cons.mp hk
  have t0 : tv_ok ta (2, 0, 0, [150]) (n_v vs 0) := t0
  have r0 : ta (v_ad (n_v vs 0)) = some 150 := tv_rg t0
  obtain ⟨t2, hk⟩ := List.forall_mem_cons.mp hk
  have t2 : tv_ok ta (0, -1, 47, []) (n_v vs 2) := t2
  have k2 : (-1) ≤ v_iv (n_v vs 2) ∧ v_iv (n_v vs 2) ≤ 47 := tv_rng t2
  have hf : fc_ok [(9, [2, 0], [165]), (20, [0], [30, 0, -1, 1, 165]), (20, [0], [30, 23, 1, 1, 165])] ta ws vs := hf
  obtain ⟨f0, hf⟩ := fc_un (show (9 : Nat) < 100 from by decide) hf
  have f0 : n_v vs 2 = w_fd ws (v_ad (n_v vs 0)) 165 := f0
  obtain ⟨f1, hf⟩ := fc_un (show (20 : Nat) < 100 from by decide) hf
  have f1 : (-1) * w_fi ws (n_v vs 0) 165 + 0 ≤ 0 := f1
  obtain ⟨f2, hf⟩ := fc_un (show (20 : Nat) < 100 from by decide) hf
  have f2 : 1 * w_fi ws (n_v vs 0) 165 + 0 ≤ 23 := f2
  have g0 : v_iv (n_v vs 2) = w_fi ws (n_v vs 0) 165 := congrArg v_iv f0
  have kz_0_165 : (-1) ≤ w_fi ws (n_v vs 0) 165 ∧ w_fi ws (n_v vs 0) 165 ≤ 47 := tv_rng (th_fd hD hth r0 (g := GG_150) rfl (k := 165) (t := (0, -1, 47, [])) rfl rfl)
  have rf2 : tv_ok ta (0, 0, 23, []) (n_v vs 2) := tv_in t2 (by omega) (by omega)
  refine ⟨List.forall_mem_cons.mpr ⟨rf2, (fun _ h => (by cases h))⟩, [], trivial, ?_, (fun _ h => (by cases h))⟩
  rw [List.append_nil]
  exact (fun _ h => (by cases h))
def n_Mo_ofNode_an : List an_T := [(13, [(0, (2, 0, 0, [150])), (1, (0, 0, 9, [])), (2, (0, 0, 23, [])), (3, (0, 0, 48, [])), (4, (0, 0, 48, [])), (5, (0, 0, 48, []))], [], (0, 0), [(0, 0, 99987), (1, 5, 48), (0, 0, 100000)], [(1, 2, -1000000000000, 9), (1, 3, -1000000000000, 9), (1, 4, -1000000000000, 9), (1, 5, -1000000000000, 9), (2, 1, -1000000000000, 23), (2, 3, -1000000000000, 23), (2, 4, -1000000000000, 23), (2, 5, -1000000000000, 23), (3, 5, -1000000000000, 0), (4, 5, -1000000000000, 0)], [], [], 0, [], [])]
def t_Mo_ofNode_ct : ct_L := [(1, 394, e_Mo_tail), (1, 398, e_Mo_head), (1, 401, e_Mo_edges), (1, 723, e_Mo_size), (1, 725, e_Mo_groupOf), (1, 1023, e_Mo_px), (1, 1029, e_Mo_py)]
set_option maxRecDepth 100000 in
theorem c_Mo_ofNode {l : Launch} {D : va_G} {kA : Nat → ClassId} (h_Mo_edges : ct_ok l D kA GG y_Mo_edges z_Mo_edges e_Mo_edges) (h_Mo_groupOf : ct_ok l D kA GG y_Mo_groupOf z_Mo_groupOf e_Mo_groupOf) (h_Mo_head : ct_ok l D kA GG y_Mo_head z_Mo_head e_Mo_head) (h_Mo_px : ct_ok l D kA GG y_Mo_px z_Mo_px e_Mo_px) (h_Mo_py : ct_ok l D kA GG y_Mo_py z_Mo_py e_Mo_py) (h_Mo_size : ct_ok l D kA GG y_Mo_size z_Mo_size e_Mo_size) (h_Mo_tail : ct_ok l D kA GG y_Mo_tail z_Mo_tail e_Mo_tail) : ct_ok l D kA GG y_Mo_ofNode z_Mo_ofNode e_Mo_ofNode := chk_all_ok (FT := [(38, 13, 19), (120, 13, 61), (354, 13, 166), (357, 13, 167), (1020, 13, 139), (1181, 13, 165)]) (PT := []) (CT := t_Mo_ofNode_ct) (KT := [(1, 546, .int (1000000), (0, 1000000, 1000000, [])), (2, 1007, .long (-1), (1, -1, -1, []))]) (NT := []) (AN := n_Mo_ofNode_an) (OT := [o_Mo_ofNode_0]) 3 572 (List.forall_mem_cons.mpr ⟨oo_Mo_ofNode_0, List.forall_mem_nil _⟩) (by decide +kernel) ⟨List.forall_mem_cons.mpr ⟨gf_Mo_38, List.forall_mem_cons.mpr ⟨gf_Mo_120, List.forall_mem_cons.mpr ⟨gf_Mo_354, List.forall_mem_cons.mpr ⟨gf_Mo_357, List.forall_mem_cons.mpr ⟨gf_Mo_1020, List.forall_mem_cons.mpr ⟨gf_Mo_1181, List.forall_mem_nil _⟩⟩⟩⟩⟩⟩, List.forall_mem_nil _, List.forall_mem_cons.mpr ⟨cl_virtual (y := y_Mo_tail) (ci := 13) rfl rfl ⟨_, _, rfl⟩ (by decide +kernel) h_Mo_tail wm_3045 wm_9 wm_3042 wm_3044 wv_13_8 ⟨by decide, by decide, by decide +kernel⟩ (by decide), List.forall_mem_cons.mpr ⟨cl_virtual (y := y_Mo_head) (ci := 13) rfl rfl ⟨_, _, rfl⟩ (by decide +kernel) h_Mo_head wm_3049 wm_9 wm_3046 wm_3048 wv_13_9 ⟨by decide, by decide, by decide +kernel⟩ (by decide), List.forall_mem_cons.mpr ⟨cl_virtual (y := y_Mo_edges) (ci := 13) rfl rfl ⟨_, _, rfl⟩ (by decide +kernel) h_Mo_edges wm_3037 wm_9 wm_3034 wm_3036 wv_13_6 ⟨by decide, by decide, by decide +kernel⟩ (by decide), List.forall_mem_cons.mpr ⟨cl_virtual (y := y_Mo_size) (ci := 13) rfl rfl ⟨_, _, rfl⟩ (by decide +kernel) h_Mo_size wm_3307 wm_9 wm_3304 wm_3306 wv_17_0 ⟨by decide, by decide, by decide +kernel⟩ (by decide), List.forall_mem_cons.mpr ⟨cl_virtual (y := y_Mo_groupOf) (ci := 13) rfl rfl ⟨_, _, rfl⟩ (by decide +kernel) h_Mo_groupOf wm_3311 wm_9 wm_3308 wm_3310 wv_17_1 ⟨by decide, by decide, by decide +kernel⟩ (by decide), List.forall_mem_cons.mpr ⟨cl_virtual (y := y_Mo_px) (ci := 13) rfl rfl ⟨_, _, rfl⟩ (by decide +kernel) h_Mo_px wm_3675 wm_9 wm_3672 wm_3674 wv_21_14 ⟨by decide, by decide, by decide +kernel⟩ (by decide), List.forall_mem_cons.mpr ⟨cl_virtual (y := y_Mo_py) (ci := 13) rfl rfl ⟨_, _, rfl⟩ (by decide +kernel) h_Mo_py wm_3679 wm_9 wm_3676 wm_3678 wv_21_15 ⟨by decide, by decide, by decide +kernel⟩ (by decide), List.forall_mem_nil _⟩⟩⟩⟩⟩⟩⟩, List.forall_mem_cons.mpr ⟨kx_Mo_1_546, List.forall_mem_cons.mpr ⟨⟨kt_mk2 wm_3625, fun _ => Or.inr (Or.inl ⟨rfl, _, rfl, by decide, by decide⟩)⟩, List.forall_mem_nil _⟩⟩, List.forall_mem_nil _, GG_pl⟩ (by decide +kernel)
def n_Mo_told_an : List an_T := []
def t_Mo_told_ct : ct_L := [(0, 387, e_Mo_in), (0, 521, e_Mo_isPlace), (1, 401, e_Mo_edges), (1, 475, e_Mo_nodes), (1, 509, e_Mo_groups), (1, 527, e_Mo_take)]
set_option maxRecDepth 100000 in
theorem c_Mo_told {l : Launch} {D : va_G} {kA : Nat → ClassId} (h_Mo_edges : ct_ok l D kA GG y_Mo_edges z_Mo_edges e_Mo_edges) (h_Mo_groups : ct_ok l D kA GG y_Mo_groups z_Mo_groups e_Mo_groups) (h_Mo_in : ct_ok l D kA GG y_Mo_in z_Mo_in e_Mo_in) (h_Mo_isPlace : ct_ok l D kA GG y_Mo_isPlace z_Mo_isPlace e_Mo_isPlace) (h_Mo_nodes : ct_ok l D kA GG y_Mo_nodes z_Mo_nodes e_Mo_nodes) (h_Mo_take : ct_ok l D kA GG y_Mo_take z_Mo_take e_Mo_take) : ct_ok l D kA GG y_Mo_told z_Mo_told e_Mo_told := chk_all_ok (FT := [(120, 13, 61), (138, 13, 67), (141, 13, 68), (144, 13, 69), (147, 13, 70), (150, 13, 71), (153, 13, 72)]) (PT := []) (CT := t_Mo_told_ct) (KT := []) (NT := []) (AN := n_Mo_told_an) (OT := []) 0 2280 (List.forall_mem_nil _) (by decide +kernel) ⟨List.forall_mem_cons.mpr ⟨gf_Mo_120, List.forall_mem_cons.mpr ⟨gf_Mo_138, List.forall_mem_cons.mpr ⟨gf_Mo_141, List.forall_mem_cons.mpr ⟨gf_Mo_144, List.forall_mem_cons.mpr ⟨gf_Mo_147, List.forall_mem_cons.mpr ⟨gf_Mo_150, List.forall_mem_cons.mpr ⟨gf_Mo_153, List.forall_mem_nil _⟩⟩⟩⟩⟩⟩⟩, List.forall_mem_nil _, List.forall_mem_cons.mpr ⟨cl_static (y := y_Mo_in) h_Mo_in wm_2971 wm_9 wm_2969 wm_2970 ⟨by decide, by decide, by decide +kernel⟩ (by decide), List.forall_mem_cons.mpr ⟨cl_static (y := y_Mo_isPlace) h_Mo_isPlace wm_2978 wm_9 wm_2976 wm_2977 ⟨by decide, by decide, by decide +kernel⟩ (by decide), List.forall_mem_cons.mpr ⟨cl_virtual (y := y_Mo_edges) (ci := 13) rfl rfl ⟨_, _, rfl⟩ (by decide +kernel) h_Mo_edges wm_3037 wm_9 wm_3034 wm_3036 wv_13_6 ⟨by decide, by decide, by decide +kernel⟩ (by decide), List.forall_mem_cons.mpr ⟨cl_virtual (y := y_Mo_nodes) (ci := 13) rfl rfl ⟨_, _, rfl⟩ (by decide +kernel) h_Mo_nodes wm_3025 wm_9 wm_3022 wm_3024 wv_13_3 ⟨by decide, by decide, by decide +kernel⟩ (by decide), List.forall_mem_cons.mpr ⟨cl_virtual (y := y_Mo_groups) (ci := 13) rfl rfl ⟨_, _, rfl⟩ (by decide +kernel) h_Mo_groups wm_3070 wm_9 wm_3067 wm_3069 wv_13_14 ⟨by decide, by decide, by decide +kernel⟩ (by decide), List.forall_mem_cons.mpr ⟨cl_virtual (y := y_Mo_take) (ci := 13) rfl rfl ⟨_, _, rfl⟩ (by decide +kernel) h_Mo_take wm_3091 wm_9 wm_3088 wm_3090 wv_14_2 ⟨by decide, by decide, by decide +kernel⟩ (by decide), List.forall_mem_nil _⟩⟩⟩⟩⟩⟩, List.forall_mem_nil _, List.forall_mem_nil _, GG_pl⟩ (by decide +kernel)
def o_Ho_same_0 : or_T := (105, 20, [(9, (0, 0, 24, [])), (10, (0, 0, 24, [])), (17, (0, 0, 0, [])), (19, (0, 0, 0, []))], [(101, [0, 9], [7]), (102, [14], [948568795032094272909893509191171341133987714380927500611236528192824358010355712, 12008]), (102, [13], [0]), (7, [9, 10], [0])], [], [], [(21, [17, 9], [24]), (21, [19, 9], [24])], [], [(9, 10, 0, 0)])
theorem oo_Ho_same_0 {kA : Nat → ClassId} : or_ok kA GG o_Ho_same_0 := by
  intro A ta ws vs hD hth hl hk hds hf
  have hl : vs.length = 20 := hl
  have hk : ∀ q ∈ ([(9, (0, 0, 24, [])), (10, (0, 0, 24, [])), (17, (0, 0, 0, [])), (19, (0, 0, 0, []))] : List (Nat × tv_T)), tv_ok ta q.2 (n_v vs q.1) := hk
  obtain ⟨t9, hk⟩ := List.forall_mem_cons.mp hk
  have t9 : tv_ok ta (0, 0, 24, []) (n_v vs 9) := t9
  have k9 : 0 ≤ v_iv (n_v vs 9) ∧ v_iv (n_v vs 9) ≤ 24 := tv_rng t9
  obtain ⟨t10, hk⟩ := List.forall_mem_cons.mp hk
  have t10 : tv_ok ta (0, 0, 24, []) (n_v vs 10) := t10
  have k10 : 0 ≤ v_iv (n_v vs 10) ∧ v_iv (n_v vs 10) ≤ 24 := tv_rng t10
  obtain ⟨t17, hk⟩ := List.forall_mem_cons.mp hk
  have t17 : tv_ok ta (0, 0, 0, []) (n_v vs 17) := t17
  have k17 : 0 ≤ v_iv (n_v vs 17) ∧ v_iv (n_v vs 17) ≤ 0 := tv_rng t17
  obtain ⟨t19, hk⟩ := List.forall_mem_cons.mp hk
  have t19 : tv_ok ta (0, 0, 0, []) (n_v vs 19) := t19
  have k19 : 0 ≤ v_iv (n_v vs 19) ∧ v_iv (n_v vs 19) ≤ 0 := tv_rng t19
  have hds : ∀ q ∈ ([(9, 10, 0, 0)] : List of_T), n_iv vs q.2.1 + q.2.2.1 ≤ n_iv vs q.1 ∧ n_iv vs q.1 ≤ n_iv vs q.2.1 + q.2.2.2 := hds
  obtain ⟨d0, hds⟩ := List.forall_mem_cons.mp hds
  have d0 : v_iv (n_v vs 10) + 0 ≤ v_iv (n_v vs 9) ∧ v_iv (n_v vs 9) ≤ v_iv (n_v vs 10) + 0 := d0
  have hf : fc_ok [(101, [0, 9], [7]), (102, [14], [948568795032094272909893509191171341133987714380927500611236528192824358010355712, 12008]), (102, [13], [0]), (7, [9, 10], [0])] ta ws vs := hf
  obtain ⟨ta1, w1, le1, ⟨_, s1⟩, hf⟩ := fc_us (show ¬ (101 : Nat) < 100 from by decide) hf
  have s1 : (∀ b j, w_el ws b j = w_el w1 b j) ∧ ∀ b j, w_fd ws b j = if b = v_ad (n_v vs 0) ∧ j = 7 then n_v vs 9 else w_fd w1 b j := s1
  obtain ⟨ta2, w2, le2, ⟨_, s2⟩, hf⟩ := fc_us (show ¬ (102 : Nat) < 100 from by decide) hf
  obtain ⟨ta3, w3, le3, ⟨_, s3⟩, hf⟩ := fc_us (show ¬ (102 : Nat) < 100 from by decide) hf
  obtain ⟨f3, hf⟩ := fc_un (show (7 : Nat) < 100 from by decide) hf
  have f3 : v_iv (n_v vs 9) = v_iv (n_v vs 10) := f3
  have nf0 : fc_1 (21, [17, 9], [24]) ws (vs) := by
    refine ⟨fun n hn => ?_, ?_⟩
    · have hn : n ∈ [17, 9] := hn
      rw [hl]
      simp only [List.mem_cons, List.not_mem_nil, or_false] at hn
      show n < 20; omega
    · show v_iv (n_v vs 17) + v_iv (n_v vs 9) ≤ 24
      omega
  have nf1 : fc_1 (21, [19, 9], [24]) ws (vs) := by
    refine ⟨fun n hn => ?_, ?_⟩
    · have hn : n ∈ [19, 9] := hn
      rw [hl]
      simp only [List.mem_cons, List.not_mem_nil, or_false] at hn
      show n < 20; omega
    · show v_iv (n_v vs 19) + v_iv (n_v vs 9) ≤ 24
      omega
  refine ⟨(fun _ h => (by cases h)), [], trivial, ?_, (fun _ h => (by cases h))⟩
  rw [List.append_nil]
  exact List.forall_mem_cons.mpr ⟨⟨show (21 : Nat) < 100 from by decide, nf0⟩, List.forall_mem_cons.mpr ⟨⟨show (21 : Nat) < 100 from by decide, nf1⟩, (fun _ h => (by cases h))⟩⟩
def n_Ho_same_an : List an_T := []
def t_Ho_same_ct : ct_L := [(0, 115, e_Ho_isPlace), (1, 251, e_Ho_searchMap), (318, 255, e_acp_77)]
set_option maxRecDepth 100000 in
theorem c_Ho_same {l : Launch} {D : va_G} {kA : Nat → ClassId} (h_Ho_isPlace : ct_ok l D kA GG y_Ho_isPlace z_Ho_isPlace e_Ho_isPlace) (h_Ho_searchMap : ct_ok l D kA GG y_Ho_searchMap z_Ho_searchMap e_Ho_searchMap) : ct_ok l D kA GG y_Ho_same z_Ho_same e_Ho_same := chk_all_ok (FT := [(13, 12, 0), (49, 12, 6), (132, 3, 0), (141, 3, 1)]) (PT := [(53, 12, 7, .int), (57, 12, 8, .int)]) (CT := t_Ho_same_ct) (KT := []) (NT := [(64, 269, .int)]) (AN := n_Ho_same_an) (OT := [o_Ho_same_0]) 0 292 (List.forall_mem_cons.mpr ⟨oo_Ho_same_0, List.forall_mem_nil _⟩) (by decide +kernel) ⟨List.forall_mem_cons.mpr ⟨gf_Ho_13, List.forall_mem_cons.mpr ⟨gf_Ho_49, List.forall_mem_cons.mpr ⟨gf_Ho_132, List.forall_mem_cons.mpr ⟨gf_Ho_141, List.forall_mem_nil _⟩⟩⟩⟩, List.forall_mem_cons.mpr ⟨pf_Ho_53, List.forall_mem_cons.mpr ⟨pf_Ho_57, List.forall_mem_nil _⟩⟩, List.forall_mem_cons.mpr ⟨cl_static (y := y_Ho_isPlace) h_Ho_isPlace wm_633 wm_1 wm_631 wm_632 ⟨by decide, by decide, by decide +kernel⟩ (by decide), List.forall_mem_cons.mpr ⟨cl_virtual (y := y_Ho_searchMap) (ci := 12) rfl rfl ⟨_, _, rfl⟩ (by decide +kernel) h_Ho_searchMap wm_1030 wm_1 wm_1027 wm_1029 wv_3_5 ⟨by decide, by decide, by decide +kernel⟩ (by decide), List.forall_mem_cons.mpr ⟨cl_copy rfl rfl (by decide) (by decide) (by decide) wm_1040 wm_750 wm_749 wm_15, List.forall_mem_nil _⟩⟩⟩, List.forall_mem_nil _, List.forall_mem_cons.mpr ⟨wm_193, List.forall_mem_nil _⟩, GG_pl⟩ (by decide +kernel)
def o_Ho_writeDrawing_0 : or_T := (2, 5, [(0, (2, 0, 0, [12])), (3, (0, 0, 99977752, [])), (4, (0, 0, 0, []))], [(20, [0, 3], [30, 0, 1, 1, 12, -1, 0, 0])], [], [], [(20, [0, 3, 4], [30, 0, 1, 1, 12, -1, 0, 0, -27, 0, 0]), (24, [0, 0], [])], [], [])
theorem oo_Ho_writeDrawing_0 {kA : Nat → ClassId} : or_ok kA GG o_Ho_writeDrawing_0 := by
  intro A ta ws vs hD hth hl hk hds hf
  have hl : vs.length = 5 := hl
  have hk : ∀ q ∈ ([(0, (2, 0, 0, [12])), (3, (0, 0, 99977752, [])), (4, (0, 0, 0, []))] : List (Nat × tv_T)), tv_ok ta q.2 (n_v vs q.1) := hk
  obtain ⟨t0, hk⟩ := List.forall_mem_cons.mp hk
  have t0 : tv_ok ta (2, 0, 0, [12]) (n_v vs 0) := t0
  have r0 : ta (v_ad (n_v vs 0)) = some 12 := tv_rg t0
  obtain ⟨t3, hk⟩ := List.forall_mem_cons.mp hk
  have t3 : tv_ok ta (0, 0, 99977752, []) (n_v vs 3) := t3
  have k3 : 0 ≤ v_iv (n_v vs 3) ∧ v_iv (n_v vs 3) ≤ 99977752 := tv_rng t3
  obtain ⟨t4, hk⟩ := List.forall_mem_cons.mp hk
  have t4 : tv_ok ta (0, 0, 0, []) (n_v vs 4) := t4
  have k4 : 0 ≤ v_iv (n_v vs 4) ∧ v_iv (n_v vs 4) ≤ 0 := tv_rng t4
  have hf : fc_ok [(20, [0, 3], [30, 0, 1, 1, 12, -1, 0, 0])] ta ws vs := hf
  obtain ⟨f0, hf⟩ := fc_un (show (20 : Nat) < 100 from by decide) hf
  have f0 : 1 * w_fi ws (n_v vs 0) 12 + ((-1) * v_iv (n_v vs 3) + 0) ≤ 0 := f0
  have kz_0_12 : 0 ≤ w_fi ws (n_v vs 0) 12 ∧ w_fi ws (n_v vs 0) 12 ≤ 100000000 := tv_rng (th_fd hD hth r0 (g := GG_12) rfl (k := 12) (t := (0, 0, 100000000, [])) rfl rfl)
  have nf0 : fc_1 (20, [0, 3, 4], [30, 0, 1, 1, 12, -1, 0, 0, -27, 0, 0]) ws (vs) := by
    refine ⟨fun n hn => ?_, ?_⟩
    · have hn : n ∈ [0, 3, 4] := hn
      rw [hl]
      simp only [List.mem_cons, List.not_mem_nil, or_false] at hn
      show n < 5; omega
    · show 1 * w_fi ws (n_v vs 0) 12 + ((-1) * v_iv (n_v vs 3) + ((-27) * v_iv (n_v vs 4) + 0)) ≤ 0
      omega
  have nf1 : fc_1 (24, [0, 0], []) ws (vs) := by
    refine ⟨fun n hn => ?_, ?_⟩
    · have hn : n ∈ [0, 0] := hn
      rw [hl]
      simp only [List.mem_cons, List.not_mem_nil, or_false] at hn
      show n < 5; omega
    · show n_v vs 0 = n_v vs 0
      first | rfl | simp only [true_and]
  refine ⟨(fun _ h => (by cases h)), [], trivial, ?_, (fun _ h => (by cases h))⟩
  rw [List.append_nil]
  exact List.forall_mem_cons.mpr ⟨⟨show (20 : Nat) < 100 from by decide, nf0⟩, List.forall_mem_cons.mpr ⟨⟨show (24 : Nat) < 100 from by decide, nf1⟩, (fun _ h => (by cases h))⟩⟩
def o_Ho_writeDrawing_1 : or_T := (55, 10, [(0, (2, 0, 0, [12])), (3, (0, 0, 99977752, [])), (4, (2, 0, 0, [12])), (5, (2, 0, 0, [3])), (7, (0, 0, 24, [])), (8, (0, 0, 24, [])), (9, (0, 0, 0, []))], [(7, [7, 8], [3]), (9, [8, 5], [0]), (20, [4, 3, 7], [30, 0, 1, 1, 12, -1, 0, 0, -27, 0, 0]), (24, [0, 4], [])], [], [], [(20, [4, 3, 9], [30, 648, 1, 1, 12, -1, 0, 0, -450, 0, 0])], [], [(7, 8, 0, 4294967296)])
theorem oo_Ho_writeDrawing_1 {kA : Nat → ClassId} : or_ok kA GG o_Ho_writeDrawing_1 := by
  intro A ta ws vs hD hth hl hk hds hf
  have hl : vs.length = 10 := hl
  have hk : ∀ q ∈ ([(0, (2, 0, 0, [12])), (3, (0, 0, 99977752, [])), (4, (2, 0, 0, [12])), (5, (2, 0, 0, [3])), (7, (0, 0, 24, [])), (8, (0, 0, 24, [])), (9, (0, 0, 0, []))] : List (Nat × tv_T)), tv_ok ta q.2 (n_v vs q.1) := hk
  obtain ⟨t0, hk⟩ := List.forall_mem_cons.mp hk
  have t0 : tv_ok ta (2, 0, 0, [12]) (n_v vs 0) := t0
  have r0 : ta (v_ad (n_v vs 0)) = some 12 := tv_rg t0
  obtain ⟨t3, hk⟩ := List.forall_mem_cons.mp hk
  have t3 : tv_ok ta (0, 0, 99977752, []) (n_v vs 3) := t3
  have k3 : 0 ≤ v_iv (n_v vs 3) ∧ v_iv (n_v vs 3) ≤ 99977752 := tv_rng t3
  obtain ⟨t4, hk⟩ := List.forall_mem_cons.mp hk
  have t4 : tv_ok ta (2, 0, 0, [12]) (n_v vs 4) := t4
  have r4 : ta (v_ad (n_v vs 4)) = some 12 := tv_rg t4
  obtain ⟨t5, hk⟩ := List.forall_mem_cons.mp hk
  have t5 : tv_ok ta (2, 0, 0, [3]) (n_v vs 5) := t5
  have r5 : ta (v_ad (n_v vs 5)) = some 3 := tv_rg t5
  obtain ⟨t7, hk⟩ := List.forall_mem_cons.mp hk
  have t7 : tv_ok ta (0, 0, 24, []) (n_v vs 7) := t7
  have k7 : 0 ≤ v_iv (n_v vs 7) ∧ v_iv (n_v vs 7) ≤ 24 := tv_rng t7
  obtain ⟨t8, hk⟩ := List.forall_mem_cons.mp hk
  have t8 : tv_ok ta (0, 0, 24, []) (n_v vs 8) := t8
  have k8 : 0 ≤ v_iv (n_v vs 8) ∧ v_iv (n_v vs 8) ≤ 24 := tv_rng t8
  obtain ⟨t9, hk⟩ := List.forall_mem_cons.mp hk
  have t9 : tv_ok ta (0, 0, 0, []) (n_v vs 9) := t9
  have k9 : 0 ≤ v_iv (n_v vs 9) ∧ v_iv (n_v vs 9) ≤ 0 := tv_rng t9
  have hds : ∀ q ∈ ([(7, 8, 0, 4294967296)] : List of_T), n_iv vs q.2.1 + q.2.2.1 ≤ n_iv vs q.1 ∧ n_iv vs q.1 ≤ n_iv vs q.2.1 + q.2.2.2 := hds
  obtain ⟨d0, hds⟩ := List.forall_mem_cons.mp hds
  have d0 : v_iv (n_v vs 8) + 0 ≤ v_iv (n_v vs 7) ∧ v_iv (n_v vs 7) ≤ v_iv (n_v vs 8) + 4294967296 := d0
  have hf : fc_ok [(7, [7, 8], [3]), (9, [8, 5], [0]), (20, [4, 3, 7], [30, 0, 1, 1, 12, -1, 0, 0, -27, 0, 0]), (24, [0, 4], [])] ta ws vs := hf
  obtain ⟨f0, hf⟩ := fc_un (show (7 : Nat) < 100 from by decide) hf
  have f0 : v_iv (n_v vs 8) ≤ v_iv (n_v vs 7) := f0
  obtain ⟨f1, hf⟩ := fc_un (show (9 : Nat) < 100 from by decide) hf
  have f1 : n_v vs 8 = w_fd ws (v_ad (n_v vs 5)) 0 := f1
  obtain ⟨f2, hf⟩ := fc_un (show (20 : Nat) < 100 from by decide) hf
  have f2 : 1 * w_fi ws (n_v vs 4) 12 + ((-1) * v_iv (n_v vs 3) + ((-27) * v_iv (n_v vs 7) + 0)) ≤ 0 := f2
  obtain ⟨f3, hf⟩ := fc_un (show (24 : Nat) < 100 from by decide) hf
  have f3 : n_v vs 0 = n_v vs 4 := f3
  have q4 : n_v vs 4 = n_v vs 0 := f3.symm
  rw [q4] at f2
  have g1 : v_iv (n_v vs 8) = w_fi ws (n_v vs 5) 0 := congrArg v_iv f1
  have kz_0_12 : 0 ≤ w_fi ws (n_v vs 0) 12 ∧ w_fi ws (n_v vs 0) 12 ≤ 100000000 := tv_rng (th_fd hD hth r0 (g := GG_12) rfl (k := 12) (t := (0, 0, 100000000, [])) rfl rfl)
  have kz_5_0 : 0 ≤ w_fi ws (n_v vs 5) 0 ∧ w_fi ws (n_v vs 5) 0 ≤ 24 := tv_rng (th_fd hD hth r5 (g := GG_3) rfl (k := 0) (t := (0, 0, 24, [])) rfl rfl)
  have nf0 : fc_1 (20, [4, 3, 9], [30, 648, 1, 1, 12, -1, 0, 0, -450, 0, 0]) ws (vs) := by
    refine ⟨fun n hn => ?_, ?_⟩
    · have hn : n ∈ [4, 3, 9] := hn
      rw [hl]
      simp only [List.mem_cons, List.not_mem_nil, or_false] at hn
      show n < 10; omega
    · show 1 * w_fi ws (n_v vs 4) 12 + ((-1) * v_iv (n_v vs 3) + ((-450) * v_iv (n_v vs 9) + 0)) ≤ 648
      rw [q4]
      omega
  refine ⟨(fun _ h => (by cases h)), [], trivial, ?_, (fun _ h => (by cases h))⟩
  rw [List.append_nil]
  exact List.forall_mem_cons.mpr ⟨⟨show (20 : Nat) < 100 from by decide, nf0⟩, (fun _ h => (by cases h))⟩
def o_Ho_writeDrawing_2 : or_T := (22, 12, [(0, (2, 0, 0, [12])), (3, (0, 0, 99977752, [])), (4, (2, 0, 0, [12])), (5, (2, 0, 0, [3])), (7, (0, 0, 23, [])), (8, (0, 1, 24, []))], [(7, [7, 8], [2]), (9, [8, 5], [0]), (20, [4, 3, 7], [30, 0, 1, 1, 12, -1, 0, 0, -27, 0, 0]), (24, [0, 4], [])], [], [(0, 0, 99999992, [])], [(20, [4, 12], [30, 0, 1, 1, 12, -1, 0, 0]), (23, [12, 3, 7], [0, 1, -1, -27])], [], [(7, 8, -4294967296, -1)])
theorem oo_Ho_writeDrawing_2 {kA : Nat → ClassId} : or_ok kA GG o_Ho_writeDrawing_2 := by
  intro A ta ws vs hD hth hl hk hds hf
  have hl : vs.length = 12 := hl
  have hk : ∀ q ∈ ([(0, (2, 0, 0, [12])), (3, (0, 0, 99977752, [])), (4, (2, 0, 0, [12])), (5, (2, 0, 0, [3])), (7, (0, 0, 23, [])), (8, (0, 1, 24, []))] : List (Nat × tv_T)), tv_ok ta q.2 (n_v vs q.1) := hk
  obtain ⟨t0, hk⟩ := List.forall_mem_cons.mp hk
  have t0 : tv_ok ta (2, 0, 0, [12]) (n_v vs 0) := t0
  have r0 : ta (v_ad (n_v vs 0)) = some 12 := tv_rg t0
  obtain ⟨t3, hk⟩ := List.forall_mem_cons.mp hk
  have t3 : tv_ok ta (0, 0, 99977752, []) (n_v vs 3) := t3
  have k3 : 0 ≤ v_iv (n_v vs 3) ∧ v_iv (n_v vs 3) ≤ 99977752 := tv_rng t3
  obtain ⟨t4, hk⟩ := List.forall_mem_cons.mp hk
  have t4 : tv_ok ta (2, 0, 0, [12]) (n_v vs 4) := t4
  have r4 : ta (v_ad (n_v vs 4)) = some 12 := tv_rg t4
  obtain ⟨t5, hk⟩ := List.forall_mem_cons.mp hk
  have t5 : tv_ok ta (2, 0, 0, [3]) (n_v vs 5) := t5
  have r5 : ta (v_ad (n_v vs 5)) = some 3 := tv_rg t5
  obtain ⟨t7, hk⟩ := List.forall_mem_cons.mp hk
  have t7 : tv_ok ta (0, 0, 23, []) (n_v vs 7) := t7
  have k7 : 0 ≤ v_iv (n_v vs 7) ∧ v_iv (n_v vs 7) ≤ 23 := tv_rng t7
  obtain ⟨t8, hk⟩ := List.forall_mem_cons.mp hk
  have t8 : tv_ok ta (0, 1, 24, []) (n_v vs 8) := t8
  have k8 : 1 ≤ v_iv (n_v vs 8) ∧ v_iv (n_v vs 8) ≤ 24 := tv_rng t8
  have hds : ∀ q ∈ ([(7, 8, -4294967296, -1)] : List of_T), n_iv vs q.2.1 + q.2.2.1 ≤ n_iv vs q.1 ∧ n_iv vs q.1 ≤ n_iv vs q.2.1 + q.2.2.2 := hds
  obtain ⟨d0, hds⟩ := List.forall_mem_cons.mp hds
  have d0 : v_iv (n_v vs 8) + (-4294967296) ≤ v_iv (n_v vs 7) ∧ v_iv (n_v vs 7) ≤ v_iv (n_v vs 8) + (-1) := d0
  have hf : fc_ok [(7, [7, 8], [2]), (9, [8, 5], [0]), (20, [4, 3, 7], [30, 0, 1, 1, 12, -1, 0, 0, -27, 0, 0]), (24, [0, 4], [])] ta ws vs := hf
  obtain ⟨f0, hf⟩ := fc_un (show (7 : Nat) < 100 from by decide) hf
  have f0 : v_iv (n_v vs 7) < v_iv (n_v vs 8) := f0
  obtain ⟨f1, hf⟩ := fc_un (show (9 : Nat) < 100 from by decide) hf
  have f1 : n_v vs 8 = w_fd ws (v_ad (n_v vs 5)) 0 := f1
  obtain ⟨f2, hf⟩ := fc_un (show (20 : Nat) < 100 from by decide) hf
  have f2 : 1 * w_fi ws (n_v vs 4) 12 + ((-1) * v_iv (n_v vs 3) + ((-27) * v_iv (n_v vs 7) + 0)) ≤ 0 := f2
  obtain ⟨f3, hf⟩ := fc_un (show (24 : Nat) < 100 from by decide) hf
  have f3 : n_v vs 0 = n_v vs 4 := f3
  have q4 : n_v vs 4 = n_v vs 0 := f3.symm
  rw [q4] at f2
  have g1 : v_iv (n_v vs 8) = w_fi ws (n_v vs 5) 0 := congrArg v_iv f1
  have kz_0_12 : 0 ≤ w_fi ws (n_v vs 0) 12 ∧ w_fi ws (n_v vs 0) 12 ≤ 100000000 := tv_rng (th_fd hD hth r0 (g := GG_12) rfl (k := 12) (t := (0, 0, 100000000, [])) rfl rfl)
  have kz_5_0 : 0 ≤ w_fi ws (n_v vs 5) 0 ∧ w_fi ws (n_v vs 5) 0 ≤ 24 := tv_rng (th_fd hD hth r5 (g := GG_3) rfl (k := 0) (t := (0, 0, 24, [])) rfl rfl)
  have kv0 : 0 ≤ w_fi ws (n_v vs 0) 12 ∧ w_fi ws (n_v vs 0) 12 ≤ 100000000 := tv_rng (th_fd hD hth r0 (g := GG_12) rfl (k := 12) (t := (0, 0, 100000000, [])) rfl rfl)
  obtain ⟨x, ex, hx⟩ := iv_ex (ta := ta) (lo := 0) (hi := 99999992) (z := w_fi ws (n_v vs 0) 12) (by omega) (by omega) (by omega) (by omega)
  have ex2 : v_iv (Value.int x) = w_fi ws (n_v vs 0) 12 := ex
  have ex3 : 0 ≤ v_iv (Value.int x) ∧ v_iv (Value.int x) ≤ 99999992 := tv_rng hx
  have e_3 : n_v (vs ++ [Value.int x]) 3 = n_v vs 3 := n_v_old (by rw [hl]; decide)
  have e_4 : n_v (vs ++ [Value.int x]) 4 = n_v vs 4 := n_v_old (by rw [hl]; decide)
  have e_7 : n_v (vs ++ [Value.int x]) 7 = n_v vs 7 := n_v_old (by rw [hl]; decide)
  have e_12 : n_v (vs ++ [Value.int x]) 12 = Value.int x := n_v_new hl
  have nf0 : fc_1 (20, [4, 12], [30, 0, 1, 1, 12, -1, 0, 0]) ws (vs ++ [Value.int x]) := by
    refine ⟨fun n hn => ?_, ?_⟩
    · have hn : n ∈ [4, 12] := hn
      rw [List.length_append, hl]
      simp only [List.mem_cons, List.not_mem_nil, or_false] at hn
      show n < 12 + 1; omega
    · show 1 * w_fi ws (n_v (vs ++ [Value.int x]) 4) 12 + ((-1) * v_iv (n_v (vs ++ [Value.int x]) 12) + 0) ≤ 0
      rw [e_4]
      rw [e_12]
      rw [q4]
      omega
  have nf1 : fc_1 (23, [12, 3, 7], [0, 1, -1, -27]) ws (vs ++ [Value.int x]) := by
    refine ⟨fun n hn => ?_, ?_⟩
    · have hn : n ∈ [12, 3, 7] := hn
      rw [List.length_append, hl]
      simp only [List.mem_cons, List.not_mem_nil, or_false] at hn
      show n < 12 + 1; omega
    · show 1 * v_iv (n_v (vs ++ [Value.int x]) 12) + ((-1) * v_iv (n_v (vs ++ [Value.int x]) 3) + ((-27) * v_iv (n_v (vs ++ [Value.int x]) 7) + 0)) ≤ 0
      rw [e_3]
      rw [e_7]
      rw [e_12]
      omega
  exact ⟨(fun _ h => (by cases h)), [Value.int x], ag_one hx, List.forall_mem_cons.mpr ⟨⟨show (20 : Nat) < 100 from by decide, nf0⟩, List.forall_mem_cons.mpr ⟨⟨show (23 : Nat) < 100 from by decide, nf1⟩, (fun _ h => (by cases h))⟩⟩, (fun _ h => (by cases h))⟩
def o_Ho_writeDrawing_3 : or_T := (38, 17, [(0, (2, 0, 0, [12])), (3, (0, 0, 99977752, [])), (4, (2, 0, 0, [12])), (7, (0, 0, 23, [])), (8, (0, 1, 24, [])), (12, (0, 0, 99999992, []))], [(23, [12, 3, 7], [0, 1, -1, -27]), (24, [0, 4], []), (20, [4, 12], [30, 8, 1, 1, 12, -1, 0, 0]), (102, [12], [261336857795280739939871698507597986398208, 12012]), (23, [12, 3, 7], [0, 1, -1, -27]), (7, [7, 8], [2])], [], [(0, 0, 99999982, [])], [(20, [4, 17], [30, 0, 1, 1, 12, -1, 0, 0]), (23, [17, 3, 7], [8, 1, -1, -27])], [], [(7, 8, -4294967296, -1)])
theorem oo_Ho_writeDrawing_3 {kA : Nat → ClassId} : or_ok kA GG o_Ho_writeDrawing_3 := by
  intro A ta ws vs hD hth hl hk hds hf
  have hl : vs.length = 17 := hl
  have hk : ∀ q ∈ ([(0, (2, 0, 0, [12])), (3, (0, 0, 99977752, [])), (4, (2, 0, 0, [12])), (7, (0, 0, 23, [])), (8, (0, 1, 24, [])), (12, (0, 0, 99999992, []))] : List (Nat × tv_T)), tv_ok ta q.2 (n_v vs q.1) := hk
  obtain ⟨t0, hk⟩ := List.forall_mem_cons.mp hk
  have t0 : tv_ok ta (2, 0, 0, [12]) (n_v vs 0) := t0
  have r0 : ta (v_ad (n_v vs 0)) = some 12 := tv_rg t0
  obtain ⟨t3, hk⟩ := List.forall_mem_cons.mp hk
  have t3 : tv_ok ta (0, 0, 99977752, []) (n_v vs 3) := t3
  have k3 : 0 ≤ v_iv (n_v vs 3) ∧ v_iv (n_v vs 3) ≤ 99977752 := tv_rng t3
  obtain ⟨t4, hk⟩ := List.forall_mem_cons.mp hk
  have t4 : tv_ok ta (2, 0, 0, [12]) (n_v vs 4) := t4
  have r4 : ta (v_ad (n_v vs 4)) = some 12 := tv_rg t4
  obtain ⟨t7, hk⟩ := List.forall_mem_cons.mp hk
  have t7 : tv_ok ta (0, 0, 23, []) (n_v vs 7) := t7
  have k7 : 0 ≤ v_iv (n_v vs 7) ∧ v_iv (n_v vs 7) ≤ 23 := tv_rng t7
  obtain ⟨t8, hk⟩ := List.forall_mem_cons.mp hk
  have t8 : tv_ok ta (0, 1, 24, []) (n_v vs 8) := t8
  have k8 : 1 ≤ v_iv (n_v vs 8) ∧ v_iv (n_v vs 8) ≤ 24 := tv_rng t8
  obtain ⟨t12, hk⟩ := List.forall_mem_cons.mp hk
  have t12 : tv_ok ta (0, 0, 99999992, []) (n_v vs 12) := t12
  have k12 : 0 ≤ v_iv (n_v vs 12) ∧ v_iv (n_v vs 12) ≤ 99999992 := tv_rng t12
  have hds : ∀ q ∈ ([(7, 8, -4294967296, -1)] : List of_T), n_iv vs q.2.1 + q.2.2.1 ≤ n_iv vs q.1 ∧ n_iv vs q.1 ≤ n_iv vs q.2.1 + q.2.2.2 := hds
  obtain ⟨d0, hds⟩ := List.forall_mem_cons.mp hds
  have d0 : v_iv (n_v vs 8) + (-4294967296) ≤ v_iv (n_v vs 7) ∧ v_iv (n_v vs 7) ≤ v_iv (n_v vs 8) + (-1) := d0
  have hf : fc_ok [(23, [12, 3, 7], [0, 1, -1, -27]), (24, [0, 4], []), (20, [4, 12], [30, 8, 1, 1, 12, -1, 0, 0]), (102, [12], [261336857795280739939871698507597986398208, 12012]), (23, [12, 3, 7], [0, 1, -1, -27]), (7, [7, 8], [2])] ta ws vs := hf
  obtain ⟨f0, hf⟩ := fc_un (show (23 : Nat) < 100 from by decide) hf
  have f0 : 1 * v_iv (n_v vs 12) + ((-1) * v_iv (n_v vs 3) + ((-27) * v_iv (n_v vs 7) + 0)) ≤ 0 := f0
  obtain ⟨f1, hf⟩ := fc_un (show (24 : Nat) < 100 from by decide) hf
  have f1 : n_v vs 0 = n_v vs 4 := f1
  obtain ⟨f2, hf⟩ := fc_un (show (20 : Nat) < 100 from by decide) hf
  have f2 : 1 * w_fi ws (n_v vs 4) 12 + ((-1) * v_iv (n_v vs 12) + 0) ≤ 8 := f2
  obtain ⟨ta1, w1, le1, ⟨_, s1⟩, hf⟩ := fc_us (show ¬ (102 : Nat) < 100 from by decide) hf
  obtain ⟨f4, hf⟩ := fc_un (show (23 : Nat) < 100 from by decide) hf
  have f4 : 1 * v_iv (n_v vs 12) + ((-1) * v_iv (n_v vs 3) + ((-27) * v_iv (n_v vs 7) + 0)) ≤ 0 := f4
  obtain ⟨f5, hf⟩ := fc_un (show (7 : Nat) < 100 from by decide) hf
  have f5 : v_iv (n_v vs 7) < v_iv (n_v vs 8) := f5
  have q4 : n_v vs 4 = n_v vs 0 := f1.symm
  rw [q4] at f2
  have kz_0_12 : 0 ≤ w_fi ws (n_v vs 0) 12 ∧ w_fi ws (n_v vs 0) 12 ≤ 100000000 := tv_rng (th_fd hD hth r0 (g := GG_12) rfl (k := 12) (t := (0, 0, 100000000, [])) rfl rfl)
  have kv0 : 0 ≤ w_fi ws (n_v vs 0) 12 ∧ w_fi ws (n_v vs 0) 12 ≤ 100000000 := tv_rng (th_fd hD hth r0 (g := GG_12) rfl (k := 12) (t := (0, 0, 100000000, [])) rfl rfl)
  obtain ⟨x, ex, hx⟩ := iv_ex (ta := ta) (lo := 0) (hi := 99999982) (z := w_fi ws (n_v vs 0) 12) (by omega) (by omega) (by omega) (by omega)
  have ex2 : v_iv (Value.int x) = w_fi ws (n_v vs 0) 12 := ex
  have ex3 : 0 ≤ v_iv (Value.int x) ∧ v_iv (Value.int x) ≤ 99999982 := tv_rng hx
  have e_3 : n_v (vs ++ [Value.int x]) 3 = n_v vs 3 := n_v_old (by rw [hl]; decide)
  have e_4 : n_v (vs ++ [Value.int x]) 4 = n_v vs 4 := n_v_old (by rw [hl]; decide)
  have e_7 : n_v (vs ++ [Value.int x]) 7 = n_v vs 7 := n_v_old (by rw [hl]; decide)
  have e_17 : n_v (vs ++ [Value.int x]) 17 = Value.int x := n_v_new hl
  have nf0 : fc_1 (20, [4, 17], [30, 0, 1, 1, 12, -1, 0, 0]) ws (vs ++ [Value.int x]) := by
    refine ⟨fun n hn => ?_, ?_⟩
    · have hn : n ∈ [4, 17] := hn
      rw [List.length_append, hl]
      simp only [List.mem_cons, List.not_mem_nil, or_false] at hn
      show n < 17 + 1; omega
    · show 1 * w_fi ws (n_v (vs ++ [Value.int x]) 4) 12 + ((-1) * v_iv (n_v (vs ++ [Value.int x]) 17) + 0) ≤ 0
      rw [e_4]
      rw [e_17]
      rw [q4]
      omega
  have nf1 : fc_1 (23, [17, 3, 7], [8, 1, -1, -27]) ws (vs ++ [Value.int x]) := by
    refine ⟨fun n hn => ?_, ?_⟩
    · have hn : n ∈ [17, 3, 7] := hn
      rw [List.length_append, hl]
      simp only [List.mem_cons, List.not_mem_nil, or_false] at hn
      show n < 17 + 1; omega
    · show 1 * v_iv (n_v (vs ++ [Value.int x]) 17) + ((-1) * v_iv (n_v (vs ++ [Value.int x]) 3) + ((-27) * v_iv (n_v (vs ++ [Value.int x]) 7) + 0)) ≤ 8
      rw [e_3]
      rw [e_7]
      rw [e_17]
      omega
  exact ⟨(fun _ h => (by cases h)), [Value.int x], ag_one hx, List.forall_mem_cons.mpr ⟨⟨show (20 : Nat) < 100 from by decide, nf0⟩, List.forall_mem_cons.mpr ⟨⟨show (23 : Nat) < 100 from by decide, nf1⟩, (fun _ h => (by cases h))⟩⟩, (fun _ h => (by cases h))⟩
def o_Ho_writeDrawing_4 : or_T := (44, 19, [(0, (2, 0, 0, [12])), (3, (0, 0, 99977752, [])), (4, (2, 0, 0, [12])), (7, (0, 0, 23, [])), (8, (0, 1, 24, [])), (12, (0, 0, 99999992, [])), (17, (0, 0, 99999982, []))], [(23, [17, 3, 7], [8, 1, -1, -27]), (23, [12, 3, 7], [0, 1, -1, -27]), (24, [0, 4], []), (20, [4, 17], [30, 18, 1, 1, 12, -1, 0, 0]), (102, [17], [261336857795280739939871698507597986398208, 12012]), (23, [17, 3, 7], [8, 1, -1, -27]), (23, [12, 3, 7], [0, 1, -1, -27]), (102, [12], [261336857795280739939871698507597986398208, 12012]), (23, [12, 3, 7], [0, 1, -1, -27]), (7, [7, 8], [2])], [], [(0, 0, 99999999, [])], [(20, [4, 19], [30, 0, 1, 1, 12, -1, 0, 0]), (23, [19, 3, 7], [26, 1, -1, -27])], [], [(7, 8, -4294967296, -1)])
theorem oo_Ho_writeDrawing_4 {kA : Nat → ClassId} : or_ok kA GG o_Ho_writeDrawing_4 := by
  intro A ta ws vs hD hth hl hk hds hf
  have hl : vs.length = 19 := hl
  have hk : ∀ q ∈ ([(0, (2, 0, 0, [12])), (3, (0, 0, 99977752, [])), (4, (2, 0, 0, [12])), (7, (0, 0, 23, [])), (8, (0, 1, 24, [])), (12, (0, 0, 99999992, [])), (17, (0, 0, 99999982, []))] : List (Nat × tv_T)), tv_ok ta q.2 (n_v vs q.1) := hk
  obtain ⟨t0, hk⟩ := List.forall_mem_cons.mp hk
  have t0 : tv_ok ta (2, 0, 0, [12]) (n_v vs 0) := t0
  have r0 : ta (v_ad (n_v vs 0)) = some 12 := tv_rg t0
  obtain ⟨t3, hk⟩ := List.forall_mem_cons.mp hk
  have t3 : tv_ok ta (0, 0, 99977752, []) (n_v vs 3) := t3
  have k3 : 0 ≤ v_iv (n_v vs 3) ∧ v_iv (n_v vs 3) ≤ 99977752 := tv_rng t3
  obtain ⟨t4, hk⟩ := List.forall_mem_cons.mp hk
  have t4 : tv_ok ta (2, 0, 0, [12]) (n_v vs 4) := t4
  have r4 : ta (v_ad (n_v vs 4)) = some 12 := tv_rg t4
  obtain ⟨t7, hk⟩ := List.forall_mem_cons.mp hk
  have t7 : tv_ok ta (0, 0, 23, []) (n_v vs 7) := t7
  have k7 : 0 ≤ v_iv (n_v vs 7) ∧ v_iv (n_v vs 7) ≤ 23 := tv_rng t7
  obtain ⟨t8, hk⟩ := List.forall_mem_cons.mp hk
  have t8 : tv_ok ta (0, 1, 24, []) (n_v vs 8) := t8
  have k8 : 1 ≤ v_iv (n_v vs 8) ∧ v_iv (n_v vs 8) ≤ 24 := tv_rng t8
  obtain ⟨t12, hk⟩ := List.forall_mem_cons.mp hk
  have t12 : tv_ok ta (0, 0, 99999992, []) (n_v vs 12) := t12
  have k12 : 0 ≤ v_iv (n_v vs 12) ∧ v_iv (n_v vs 12) ≤ 99999992 := tv_rng t12
  obtain ⟨t17, hk⟩ := List.forall_mem_cons.mp hk
  have t17 : tv_ok ta (0, 0, 99999982, []) (n_v vs 17) := t17
  have k17 : 0 ≤ v_iv (n_v vs 17) ∧ v_iv (n_v vs 17) ≤ 99999982 := tv_rng t17
  have hds : ∀ q ∈ ([(7, 8, -4294967296, -1)] : List of_T), n_iv vs q.2.1 + q.2.2.1 ≤ n_iv vs q.1 ∧ n_iv vs q.1 ≤ n_iv vs q.2.1 + q.2.2.2 := hds
  obtain ⟨d0, hds⟩ := List.forall_mem_cons.mp hds
  have d0 : v_iv (n_v vs 8) + (-4294967296) ≤ v_iv (n_v vs 7) ∧ v_iv (n_v vs 7) ≤ v_iv (n_v vs 8) + (-1) := d0
  have hf : fc_ok [(23, [17, 3, 7], [8, 1, -1, -27]), (23, [12, 3, 7], [0, 1, -1, -27]), (24, [0, 4], []), (20, [4, 17], [30, 18, 1, 1, 12, -1, 0, 0]), (102, [17], [261336857795280739939871698507597986398208, 12012]), (23, [17, 3, 7], [8, 1, -1, -27]), (23, [12, 3, 7], [0, 1, -1, -27]), (102, [12], [261336857795280739939871698507597986398208, 12012]), (23, [12, 3, 7], [0, 1, -1, -27]), (7, [7, 8], [2])] ta ws vs := hf
  obtain ⟨f0, hf⟩ := fc_un (show (23 : Nat) < 100 from by decide) hf
  have f0 : 1 * v_iv (n_v vs 17) + ((-1) * v_iv (n_v vs 3) + ((-27) * v_iv (n_v vs 7) + 0)) ≤ 8 := f0
  obtain ⟨f1, hf⟩ := fc_un (show (23 : Nat) < 100 from by decide) hf
  have f1 : 1 * v_iv (n_v vs 12) + ((-1) * v_iv (n_v vs 3) + ((-27) * v_iv (n_v vs 7) + 0)) ≤ 0 := f1
  obtain ⟨f2, hf⟩ := fc_un (show (24 : Nat) < 100 from by decide) hf
  have f2 : n_v vs 0 = n_v vs 4 := f2
  obtain ⟨f3, hf⟩ := fc_un (show (20 : Nat) < 100 from by decide) hf
  have f3 : 1 * w_fi ws (n_v vs 4) 12 + ((-1) * v_iv (n_v vs 17) + 0) ≤ 18 := f3
  obtain ⟨ta1, w1, le1, ⟨_, s1⟩, hf⟩ := fc_us (show ¬ (102 : Nat) < 100 from by decide) hf
  obtain ⟨f5, hf⟩ := fc_un (show (23 : Nat) < 100 from by decide) hf
  have f5 : 1 * v_iv (n_v vs 17) + ((-1) * v_iv (n_v vs 3) + ((-27) * v_iv (n_v vs 7) + 0)) ≤ 8 := f5
  obtain ⟨f6, hf⟩ := fc_un (show (23 : Nat) < 100 from by decide) hf
  have f6 : 1 * v_iv (n_v vs 12) + ((-1) * v_iv (n_v vs 3) + ((-27) * v_iv (n_v vs 7) + 0)) ≤ 0 := f6
  obtain ⟨ta2, w2, le2, ⟨_, s2⟩, hf⟩ := fc_us (show ¬ (102 : Nat) < 100 from by decide) hf
  obtain ⟨f8, hf⟩ := fc_un (show (23 : Nat) < 100 from by decide) hf
  have f8 : 1 * v_iv (n_v vs 12) + ((-1) * v_iv (n_v vs 3) + ((-27) * v_iv (n_v vs 7) + 0)) ≤ 0 := f8
  obtain ⟨f9, hf⟩ := fc_un (show (7 : Nat) < 100 from by decide) hf
  have f9 : v_iv (n_v vs 7) < v_iv (n_v vs 8) := f9
  have q4 : n_v vs 4 = n_v vs 0 := f2.symm
  rw [q4] at f3
  have kz_0_12 : 0 ≤ w_fi ws (n_v vs 0) 12 ∧ w_fi ws (n_v vs 0) 12 ≤ 100000000 := tv_rng (th_fd hD hth r0 (g := GG_12) rfl (k := 12) (t := (0, 0, 100000000, [])) rfl rfl)
  have kv0 : 0 ≤ w_fi ws (n_v vs 0) 12 ∧ w_fi ws (n_v vs 0) 12 ≤ 100000000 := tv_rng (th_fd hD hth r0 (g := GG_12) rfl (k := 12) (t := (0, 0, 100000000, [])) rfl rfl)
  obtain ⟨x, ex, hx⟩ := iv_ex (ta := ta) (lo := 0) (hi := 99999999) (z := w_fi ws (n_v vs 0) 12) (by omega) (by omega) (by omega) (by omega)
  have ex2 : v_iv (Value.int x) = w_fi ws (n_v vs 0) 12 := ex
  have ex3 : 0 ≤ v_iv (Value.int x) ∧ v_iv (Value.int x) ≤ 99999999 := tv_rng hx
  have e_3 : n_v (vs ++ [Value.int x]) 3 = n_v vs 3 := n_v_old (by rw [hl]; decide)
  have e_4 : n_v (vs ++ [Value.int x]) 4 = n_v vs 4 := n_v_old (by rw [hl]; decide)
  have e_7 : n_v (vs ++ [Value.int x]) 7 = n_v vs 7 := n_v_old (by rw [hl]; decide)
  have e_19 : n_v (vs ++ [Value.int x]) 19 = Value.int x := n_v_new hl
  have nf0 : fc_1 (20, [4, 19], [30, 0, 1, 1, 12, -1, 0, 0]) ws (vs ++ [Value.int x]) := by
    refine ⟨fun n hn => ?_, ?_⟩
    · have hn : n ∈ [4, 19] := hn
      rw [List.length_append, hl]
      simp only [List.mem_cons, List.not_mem_nil, or_false] at hn
      show n < 19 + 1; omega
    · show 1 * w_fi ws (n_v (vs ++ [Value.int x]) 4) 12 + ((-1) * v_iv (n_v (vs ++ [Value.int x]) 19) + 0) ≤ 0
      rw [e_4]
      rw [e_19]
      rw [q4]
      omega
  have nf1 : fc_1 (23, [19, 3, 7], [26, 1, -1, -27]) ws (vs ++ [Value.int x]) := by
    refine ⟨fun n hn => ?_, ?_⟩
    · have hn : n ∈ [19, 3, 7] := hn
      rw [List.length_append, hl]
      simp only [List.mem_cons, List.not_mem_nil, or_false] at hn
      show n < 19 + 1; omega
    · show 1 * v_iv (n_v (vs ++ [Value.int x]) 19) + ((-1) * v_iv (n_v (vs ++ [Value.int x]) 3) + ((-27) * v_iv (n_v (vs ++ [Value.int x]) 7) + 0)) ≤ 26
      rw [e_3]
      rw [e_7]
      rw [e_19]
      omega
  exact ⟨(fun _ h => (by cases h)), [Value.int x], ag_one hx, List.forall_mem_cons.mpr ⟨⟨show (20 : Nat) < 100 from by decide, nf0⟩, List.forall_mem_cons.mpr ⟨⟨show (23 : Nat) < 100 from by decide, nf1⟩, (fun _ h => (by cases h))⟩⟩, (fun _ h => (by cases h))⟩
def o_Ho_writeDrawing_5 : or_T := (2, 21, [(0, (2, 0, 0, [12])), (3, (0, 0, 99977752, [])), (4, (2, 0, 0, [12])), (7, (0, 0, 23, [])), (8, (0, 1, 24, [])), (12, (0, 0, 99999992, [])), (17, (0, 0, 99999982, [])), (19, (0, 0, 99999999, [])), (20, (0, 1, 24, []))], [(6, [20, 7], [1]), (23, [19, 3, 7], [26, 1, -1, -27]), (23, [17, 3, 7], [8, 1, -1, -27]), (23, [12, 3, 7], [0, 1, -1, -27]), (24, [0, 4], []), (20, [4, 19], [30, 1, 1, 1, 12, -1, 0, 0]), (102, [19], [261336857795280739939871698507597986398208, 12012]), (23, [19, 3, 7], [26, 1, -1, -27]), (23, [17, 3, 7], [8, 1, -1, -27]), (23, [12, 3, 7], [0, 1, -1, -27]), (102, [17], [261336857795280739939871698507597986398208, 12012]), (23, [17, 3, 7], [8, 1, -1, -27]), (23, [12, 3, 7], [0, 1, -1, -27]), (102, [12], [261336857795280739939871698507597986398208, 12012]), (23, [12, 3, 7], [0, 1, -1, -27]), (7, [7, 8], [2])], [], [], [(20, [4, 3, 20], [30, 0, 1, 1, 12, -1, 0, 0, -27, 0, 0])], [], [(20, 7, 1, 1), (20, 8, -4294967296, 0), (7, 8, -4294967296, -1)])
theorem oo_Ho_writeDrawing_5 {kA : Nat → ClassId} : or_ok kA GG o_Ho_writeDrawing_5 := by
  intro A ta ws vs hD hth hl hk hds hf
  have hl : vs.length = 21 := hl
  have hk : ∀ q ∈ ([(0, (2, 0, 0, [12])), (3, (0, 0, 99977752, [])), (4, (2, 0, 0, [12])), (7, (0, 0, 23, [])), (8, (0, 1, 24, [])), (12, (0, 0, 99999992, [])), (17, (0, 0, 99999982, [])), (19, (0, 0, 99999999, [])), (20, (0, 1, 24, []))] : List (Nat × tv_T)), tv_ok ta q.2 (n_v vs q.1) := hk
  obtain ⟨t0, hk⟩ := List.forall_mem_cons.mp hk
  have t0 : tv_ok ta (2, 0, 0, [12]) (n_v vs 0) := t0
  have r0 : ta (v_ad (n_v vs 0)) = some 12 := tv_rg t0
  obtain ⟨t3, hk⟩ := List.forall_mem_cons.mp hk
  have t3 : tv_ok ta (0, 0, 99977752, []) (n_v vs 3) := t3
  have k3 : 0 ≤ v_iv (n_v vs 3) ∧ v_iv (n_v vs 3) ≤ 99977752 := tv_rng t3
  obtain ⟨t4, hk⟩ := List.forall_mem_cons.mp hk
  have t4 : tv_ok ta (2, 0, 0, [12]) (n_v vs 4) := t4
  have r4 : ta (v_ad (n_v vs 4)) = some 12 := tv_rg t4
  obtain ⟨t7, hk⟩ := List.forall_mem_cons.mp hk
  have t7 : tv_ok ta (0, 0, 23, []) (n_v vs 7) := t7
  have k7 : 0 ≤ v_iv (n_v vs 7) ∧ v_iv (n_v vs 7) ≤ 23 := tv_rng t7
  obtain ⟨t8, hk⟩ := List.forall_mem_cons.mp hk
  have t8 : tv_ok ta (0, 1, 24, []) (n_v vs 8) := t8
  have k8 : 1 ≤ v_iv (n_v vs 8) ∧ v_iv (n_v vs 8) ≤ 24 := tv_rng t8
  obtain ⟨t12, hk⟩ := List.forall_mem_cons.mp hk
  have t12 : tv_ok ta (0, 0, 99999992, []) (n_v vs 12) := t12
  have k12 : 0 ≤ v_iv (n_v vs 12) ∧ v_iv (n_v vs 12) ≤ 99999992 := tv_rng t12
  obtain ⟨t17, hk⟩ := List.forall_mem_cons.mp hk
  have t17 : tv_ok ta (0, 0, 99999982, []) (n_v vs 17) := t17
  have k17 : 0 ≤ v_iv (n_v vs 17) ∧ v_iv (n_v vs 17) ≤ 99999982 := tv_rng t17
  obtain ⟨t19, hk⟩ := List.forall_mem_cons.mp hk
  have t19 : tv_ok ta (0, 0, 99999999, []) (n_v vs 19) := t19
  have k19 : 0 ≤ v_iv (n_v vs 19) ∧ v_iv (n_v vs 19) ≤ 99999999 := tv_rng t19
  obtain ⟨t20, hk⟩ := List.forall_mem_cons.mp hk
  have t20 : tv_ok ta (0, 1, 24, []) (n_v vs 20) := t20
  have k20 : 1 ≤ v_iv (n_v vs 20) ∧ v_iv (n_v vs 20) ≤ 24 := tv_rng t20
  have hds : ∀ q ∈ ([(20, 7, 1, 1), (20, 8, -4294967296, 0), (7, 8, -4294967296, -1)] : List of_T), n_iv vs q.2.1 + q.2.2.1 ≤ n_iv vs q.1 ∧ n_iv vs q.1 ≤ n_iv vs q.2.1 + q.2.2.2 := hds
  obtain ⟨d0, hds⟩ := List.forall_mem_cons.mp hds
  have d0 : v_iv (n_v vs 7) + 1 ≤ v_iv (n_v vs 20) ∧ v_iv (n_v vs 20) ≤ v_iv (n_v vs 7) + 1 := d0
  obtain ⟨d1, hds⟩ := List.forall_mem_cons.mp hds
  have d1 : v_iv (n_v vs 8) + (-4294967296) ≤ v_iv (n_v vs 20) ∧ v_iv (n_v vs 20) ≤ v_iv (n_v vs 8) + 0 := d1
  obtain ⟨d2, hds⟩ := List.forall_mem_cons.mp hds
  have d2 : v_iv (n_v vs 8) + (-4294967296) ≤ v_iv (n_v vs 7) ∧ v_iv (n_v vs 7) ≤ v_iv (n_v vs 8) + (-1) := d2
  have hf : fc_ok [(6, [20, 7], [1]), (23, [19, 3, 7], [26, 1, -1, -27]), (23, [17, 3, 7], [8, 1, -1, -27]), (23, [12, 3, 7], [0, 1, -1, -27]), (24, [0, 4], []), (20, [4, 19], [30, 1, 1, 1, 12, -1, 0, 0]), (102, [19], [261336857795280739939871698507597986398208, 12012]), (23, [19, 3, 7], [26, 1, -1, -27]), (23, [17, 3, 7], [8, 1, -1, -27]), (23, [12, 3, 7], [0, 1, -1, -27]), (102, [17], [261336857795280739939871698507597986398208, 12012]), (23, [17, 3, 7], [8, 1, -1, -27]), (23, [12, 3, 7], [0, 1, -1, -27]), (102, [12], [261336857795280739939871698507597986398208, 12012]), (23, [12, 3, 7], [0, 1, -1, -27]), (7, [7, 8], [2])] ta ws vs := hf
  obtain ⟨f0, hf⟩ := fc_un (show (6 : Nat) < 100 from by decide) hf
  have f0 : v_iv (n_v vs 20) = v_iv (n_v vs 7) + 1 := f0
  obtain ⟨f1, hf⟩ := fc_un (show (23 : Nat) < 100 from by decide) hf
  have f1 : 1 * v_iv (n_v vs 19) + ((-1) * v_iv (n_v vs 3) + ((-27) * v_iv (n_v vs 7) + 0)) ≤ 26 := f1
  obtain ⟨f2, hf⟩ := fc_un (show (23 : Nat) < 100 from by decide) hf
  have f2 : 1 * v_iv (n_v vs 17) + ((-1) * v_iv (n_v vs 3) + ((-27) * v_iv (n_v vs 7) + 0)) ≤ 8 := f2
  obtain ⟨f3, hf⟩ := fc_un (show (23 : Nat) < 100 from by decide) hf
  have f3 : 1 * v_iv (n_v vs 12) + ((-1) * v_iv (n_v vs 3) + ((-27) * v_iv (n_v vs 7) + 0)) ≤ 0 := f3
  obtain ⟨f4, hf⟩ := fc_un (show (24 : Nat) < 100 from by decide) hf
  have f4 : n_v vs 0 = n_v vs 4 := f4
  obtain ⟨f5, hf⟩ := fc_un (show (20 : Nat) < 100 from by decide) hf
  have f5 : 1 * w_fi ws (n_v vs 4) 12 + ((-1) * v_iv (n_v vs 19) + 0) ≤ 1 := f5
  obtain ⟨ta1, w1, le1, ⟨_, s1⟩, hf⟩ := fc_us (show ¬ (102 : Nat) < 100 from by decide) hf
  obtain ⟨f7, hf⟩ := fc_un (show (23 : Nat) < 100 from by decide) hf
  have f7 : 1 * v_iv (n_v vs 19) + ((-1) * v_iv (n_v vs 3) + ((-27) * v_iv (n_v vs 7) + 0)) ≤ 26 := f7
  obtain ⟨f8, hf⟩ := fc_un (show (23 : Nat) < 100 from by decide) hf
  have f8 : 1 * v_iv (n_v vs 17) + ((-1) * v_iv (n_v vs 3) + ((-27) * v_iv (n_v vs 7) + 0)) ≤ 8 := f8
  obtain ⟨f9, hf⟩ := fc_un (show (23 : Nat) < 100 from by decide) hf
  have f9 : 1 * v_iv (n_v vs 12) + ((-1) * v_iv (n_v vs 3) + ((-27) * v_iv (n_v vs 7) + 0)) ≤ 0 := f9
  obtain ⟨ta2, w2, le2, ⟨_, s2⟩, hf⟩ := fc_us (show ¬ (102 : Nat) < 100 from by decide) hf
  obtain ⟨f11, hf⟩ := fc_un (show (23 : Nat) < 100 from by decide) hf
  have f11 : 1 * v_iv (n_v vs 17) + ((-1) * v_iv (n_v vs 3) + ((-27) * v_iv (n_v vs 7) + 0)) ≤ 8 := f11
  obtain ⟨f12, hf⟩ := fc_un (show (23 : Nat) < 100 from by decide) hf
  have f12 : 1 * v_iv (n_v vs 12) + ((-1) * v_iv (n_v vs 3) + ((-27) * v_iv (n_v vs 7) + 0)) ≤ 0 := f12
  obtain ⟨ta3, w3, le3, ⟨_, s3⟩, hf⟩ := fc_us (show ¬ (102 : Nat) < 100 from by decide) hf
  obtain ⟨f14, hf⟩ := fc_un (show (23 : Nat) < 100 from by decide) hf
  have f14 : 1 * v_iv (n_v vs 12) + ((-1) * v_iv (n_v vs 3) + ((-27) * v_iv (n_v vs 7) + 0)) ≤ 0 := f14
  obtain ⟨f15, hf⟩ := fc_un (show (7 : Nat) < 100 from by decide) hf
  have f15 : v_iv (n_v vs 7) < v_iv (n_v vs 8) := f15
  have q4 : n_v vs 4 = n_v vs 0 := f4.symm
  rw [q4] at f5
  have kz_0_12 : 0 ≤ w_fi ws (n_v vs 0) 12 ∧ w_fi ws (n_v vs 0) 12 ≤ 100000000 := tv_rng (th_fd hD hth r0 (g := GG_12) rfl (k := 12) (t := (0, 0, 100000000, [])) rfl rfl)
  have nf0 : fc_1 (20, [4, 3, 20], [30, 0, 1, 1, 12, -1, 0, 0, -27, 0, 0]) ws (vs) := by
    refine ⟨fun n hn => ?_, ?_⟩
    · have hn : n ∈ [4, 3, 20] := hn
      rw [hl]
      simp only [List.mem_cons, List.not_mem_nil, or_false] at hn
      show n < 21; omega
    · show 1 * w_fi ws (n_v vs 4) 12 + ((-1) * v_iv (n_v vs 3) + ((-27) * v_iv (n_v vs 20) + 0)) ≤ 0
      rw [q4]
      omega
  refine ⟨(fun _ h => (by cases h)), [], trivial, ?_, (fun _ h => (by cases h))⟩
  rw [List.append_nil]
  exact List.forall_mem_cons.mpr ⟨⟨show (20 : Nat) < 100 from by decide, nf0⟩, (fun _ h => (by cases h))⟩
def o_Ho_writeDrawing_6 : or_T := (139, 9, [(0, (2, 0, 0, [12])), (3, (0, 0, 99977752, [])), (4, (2, 0, 0, [12])), (5, (2, 0, 0, [3])), (7, (0, 0, 48, [])), (8, (0, 0, 48, []))], [(7, [7, 8], [3]), (9, [8, 5], [1]), (20, [4, 3, 7], [30, 648, 1, 1, 12, -1, 0, 0, -450, 0, 0]), (24, [0, 4], [])], [], [], [(20, [0, 3], [30, 22248, 1, 1, 12, -1, 0, 0])], [], [(7, 8, 0, 4294967296)])
theorem oo_Ho_writeDrawing_6 {kA : Nat → ClassId} : or_ok kA GG o_Ho_writeDrawing_6 := by
  intro A ta ws vs hD hth hl hk hds hf
  have hl : vs.length = 9 := hl
  have hk : ∀ q ∈ ([(0, (2, 0, 0, [12])), (3, (0, 0, 99977752, [])), (4, (2, 0, 0, [12])), (5, (2, 0, 0, [3])), (7, (0, 0, 48, [])), (8, (0, 0, 48, []))] : List (Nat × tv_T)), tv_ok ta q.2 (n_v vs q.1) := hk
  obtain ⟨t0, hk⟩ := List.forall_mem_cons.mp hk
  have t0 : tv_ok ta (2, 0, 0, [12]) (n_v vs 0) := t0
  have r0 : ta (v_ad (n_v vs 0)) = some 12 := tv_rg t0
  obtain ⟨t3, hk⟩ := List.forall_mem_cons.mp hk
  have t3 : tv_ok ta (0, 0, 99977752, []) (n_v vs 3) := t3
  have k3 : 0 ≤ v_iv (n_v vs 3) ∧ v_iv (n_v vs 3) ≤ 99977752 := tv_rng t3
  obtain ⟨t4, hk⟩ := List.forall_mem_cons.mp hk
  have t4 : tv_ok ta (2, 0, 0, [12]) (n_v vs 4) := t4
  have r4 : ta (v_ad (n_v vs 4)) = some 12 := tv_rg t4
  obtain ⟨t5, hk⟩ := List.forall_mem_cons.mp hk
  have t5 : tv_ok ta (2, 0, 0, [3]) (n_v vs 5) := t5
  have r5 : ta (v_ad (n_v vs 5)) = some 3 := tv_rg t5
  obtain ⟨t7, hk⟩ := List.forall_mem_cons.mp hk
  have t7 : tv_ok ta (0, 0, 48, []) (n_v vs 7) := t7
  have k7 : 0 ≤ v_iv (n_v vs 7) ∧ v_iv (n_v vs 7) ≤ 48 := tv_rng t7
  obtain ⟨t8, hk⟩ := List.forall_mem_cons.mp hk
  have t8 : tv_ok ta (0, 0, 48, []) (n_v vs 8) := t8
  have k8 : 0 ≤ v_iv (n_v vs 8) ∧ v_iv (n_v vs 8) ≤ 48 := tv_rng t8
  have hds : ∀ q ∈ ([(7, 8, 0, 4294967296)] : List of_T), n_iv vs q.2.1 + q.2.2.1 ≤ n_iv vs q.1 ∧ n_iv vs q.1 ≤ n_iv vs q.2.1 + q.2.2.2 := hds
  obtain ⟨d0, hds⟩ := List.forall_mem_cons.mp hds
  have d0 : v_iv (n_v vs 8) + 0 ≤ v_iv (n_v vs 7) ∧ v_iv (n_v vs 7) ≤ v_iv (n_v vs 8) + 4294967296 := d0
  have hf : fc_ok [(7, [7, 8], [3]), (9, [8, 5], [1]), (20, [4, 3, 7], [30, 648, 1, 1, 12, -1, 0, 0, -450, 0, 0]), (24, [0, 4], [])] ta ws vs := hf
  obtain ⟨f0, hf⟩ := fc_un (show (7 : Nat) < 100 from by decide) hf
  have f0 : v_iv (n_v vs 8) ≤ v_iv (n_v vs 7) := f0
  obtain ⟨f1, hf⟩ := fc_un (show (9 : Nat) < 100 from by decide) hf
  have f1 : n_v vs 8 = w_fd ws (v_ad (n_v vs 5)) 1 := f1
  obtain ⟨f2, hf⟩ := fc_un (show (20 : Nat) < 100 from by decide) hf
  have f2 : 1 * w_fi ws (n_v vs 4) 12 + ((-1) * v_iv (n_v vs 3) + ((-450) * v_iv (n_v vs 7) + 0)) ≤ 648 := f2
  obtain ⟨f3, hf⟩ := fc_un (show (24 : Nat) < 100 from by decide) hf
  have f3 : n_v vs 0 = n_v vs 4 := f3
  have q4 : n_v vs 4 = n_v vs 0 := f3.symm
  rw [q4] at f2
  have g1 : v_iv (n_v vs 8) = w_fi ws (n_v vs 5) 1 := congrArg v_iv f1
  have kz_0_12 : 0 ≤ w_fi ws (n_v vs 0) 12 ∧ w_fi ws (n_v vs 0) 12 ≤ 100000000 := tv_rng (th_fd hD hth r0 (g := GG_12) rfl (k := 12) (t := (0, 0, 100000000, [])) rfl rfl)
  have kz_5_1 : 0 ≤ w_fi ws (n_v vs 5) 1 ∧ w_fi ws (n_v vs 5) 1 ≤ 48 := tv_rng (th_fd hD hth r5 (g := GG_3) rfl (k := 1) (t := (0, 0, 48, [])) rfl rfl)
  have nf0 : fc_1 (20, [0, 3], [30, 22248, 1, 1, 12, -1, 0, 0]) ws (vs) := by
    refine ⟨fun n hn => ?_, ?_⟩
    · have hn : n ∈ [0, 3] := hn
      rw [hl]
      simp only [List.mem_cons, List.not_mem_nil, or_false] at hn
      show n < 9; omega
    · show 1 * w_fi ws (n_v vs 0) 12 + ((-1) * v_iv (n_v vs 3) + 0) ≤ 22248
      omega
  refine ⟨(fun _ h => (by cases h)), [], trivial, ?_, (fun _ h => (by cases h))⟩
  rw [List.append_nil]
  exact List.forall_mem_cons.mpr ⟨⟨show (20 : Nat) < 100 from by decide, nf0⟩, (fun _ h => (by cases h))⟩
def o_Ho_writeDrawing_7 : or_T := (70, 11, [(0, (2, 0, 0, [12])), (3, (0, 0, 99977752, [])), (4, (2, 0, 0, [12])), (5, (2, 0, 0, [3])), (7, (0, 0, 47, [])), (8, (0, 1, 48, []))], [(7, [7, 8], [2]), (9, [8, 5], [1]), (20, [4, 3, 7], [30, 648, 1, 1, 12, -1, 0, 0, -450, 0, 0]), (24, [0, 4], [])], [], [(0, 0, 99999992, [])], [(20, [4, 11], [30, 0, 1, 1, 12, -1, 0, 0]), (23, [11, 3, 7], [648, 1, -1, -450])], [], [(7, 8, -4294967296, -1)])
theorem oo_Ho_writeDrawing_7 {kA : Nat → ClassId} : or_ok kA GG o_Ho_writeDrawing_7 := by
  intro A ta ws vs hD hth hl hk hds hf
  have hl : vs.length = 11 := hl
  have hk : ∀ q ∈ ([(0, (2, 0, 0, [12])), (3, (0, 0, 99977752, [])), (4, (2, 0, 0, [12])), (5, (2, 0, 0, [3])), (7, (0, 0, 47, [])), (8, (0, 1, 48, []))] : List (Nat × tv_T)), tv_ok ta q.2 (n_v vs q.1) := hk
  obtain ⟨t0, hk⟩ := List.forall_mem_cons.mp hk
  have t0 : tv_ok ta (2, 0, 0, [12]) (n_v vs 0) := t0
  have r0 : ta (v_ad (n_v vs 0)) = some 12 := tv_rg t0
  obtain ⟨t3, hk⟩ := List.forall_mem_cons.mp hk
  have t3 : tv_ok ta (0, 0, 99977752, []) (n_v vs 3) := t3
  have k3 : 0 ≤ v_iv (n_v vs 3) ∧ v_iv (n_v vs 3) ≤ 99977752 := tv_rng t3
  obtain ⟨t4, hk⟩ := List.forall_mem_cons.mp hk
  have t4 : tv_ok ta (2, 0, 0, [12]) (n_v vs 4) := t4
  have r4 : ta (v_ad (n_v vs 4)) = some 12 := tv_rg t4
  obtain ⟨t5, hk⟩ := List.forall_mem_cons.mp hk
  have t5 : tv_ok ta (2, 0, 0, [3]) (n_v vs 5) := t5
  have r5 : ta (v_ad (n_v vs 5)) = some 3 := tv_rg t5
  obtain ⟨t7, hk⟩ := List.forall_mem_cons.mp hk
  have t7 : tv_ok ta (0, 0, 47, []) (n_v vs 7) := t7
  have k7 : 0 ≤ v_iv (n_v vs 7) ∧ v_iv (n_v vs 7) ≤ 47 := tv_rng t7
  obtain ⟨t8, hk⟩ := List.forall_mem_cons.mp hk
  have t8 : tv_ok ta (0, 1, 48, []) (n_v vs 8) := t8
  have k8 : 1 ≤ v_iv (n_v vs 8) ∧ v_iv (n_v vs 8) ≤ 48 := tv_rng t8
  have hds : ∀ q ∈ ([(7, 8, -4294967296, -1)] : List of_T), n_iv vs q.2.1 + q.2.2.1 ≤ n_iv vs q.1 ∧ n_iv vs q.1 ≤ n_iv vs q.2.1 + q.2.2.2 := hds
  obtain ⟨d0, hds⟩ := List.forall_mem_cons.mp hds
  have d0 : v_iv (n_v vs 8) + (-4294967296) ≤ v_iv (n_v vs 7) ∧ v_iv (n_v vs 7) ≤ v_iv (n_v vs 8) + (-1) := d0
  have hf : fc_ok [(7, [7, 8], [2]), (9, [8, 5], [1]), (20, [4, 3, 7], [30, 648, 1, 1, 12, -1, 0, 0, -450, 0, 0]), (24, [0, 4], [])] ta ws vs := hf
  obtain ⟨f0, hf⟩ := fc_un (show (7 : Nat) < 100 from by decide) hf
  have f0 : v_iv (n_v vs 7) < v_iv (n_v vs 8) := f0
  obtain ⟨f1, hf⟩ := fc_un (show (9 : Nat) < 100 from by decide) hf
  have f1 : n_v vs 8 = w_fd ws (v_ad (n_v vs 5)) 1 := f1
  obtain ⟨f2, hf⟩ := fc_un (show (20 : Nat) < 100 from by decide) hf
  have f2 : 1 * w_fi ws (n_v vs 4) 12 + ((-1) * v_iv (n_v vs 3) + ((-450) * v_iv (n_v vs 7) + 0)) ≤ 648 := f2
  obtain ⟨f3, hf⟩ := fc_un (show (24 : Nat) < 100 from by decide) hf
  have f3 : n_v vs 0 = n_v vs 4 := f3
  have q4 : n_v vs 4 = n_v vs 0 := f3.symm
  rw [q4] at f2
  have g1 : v_iv (n_v vs 8) = w_fi ws (n_v vs 5) 1 := congrArg v_iv f1
  have kz_0_12 : 0 ≤ w_fi ws (n_v vs 0) 12 ∧ w_fi ws (n_v vs 0) 12 ≤ 100000000 := tv_rng (th_fd hD hth r0 (g := GG_12) rfl (k := 12) (t := (0, 0, 100000000, [])) rfl rfl)
  have kz_5_1 : 0 ≤ w_fi ws (n_v vs 5) 1 ∧ w_fi ws (n_v vs 5) 1 ≤ 48 := tv_rng (th_fd hD hth r5 (g := GG_3) rfl (k := 1) (t := (0, 0, 48, [])) rfl rfl)
  have kv0 : 0 ≤ w_fi ws (n_v vs 0) 12 ∧ w_fi ws (n_v vs 0) 12 ≤ 100000000 := tv_rng (th_fd hD hth r0 (g := GG_12) rfl (k := 12) (t := (0, 0, 100000000, [])) rfl rfl)
  obtain ⟨x, ex, hx⟩ := iv_ex (ta := ta) (lo := 0) (hi := 99999992) (z := w_fi ws (n_v vs 0) 12) (by omega) (by omega) (by omega) (by omega)
  have ex2 : v_iv (Value.int x) = w_fi ws (n_v vs 0) 12 := ex
  have ex3 : 0 ≤ v_iv (Value.int x) ∧ v_iv (Value.int x) ≤ 99999992 := tv_rng hx
  have e_3 : n_v (vs ++ [Value.int x]) 3 = n_v vs 3 := n_v_old (by rw [hl]; decide)
  have e_4 : n_v (vs ++ [Value.int x]) 4 = n_v vs 4 := n_v_old (by rw [hl]; decide)
  have e_7 : n_v (vs ++ [Value.int x]) 7 = n_v vs 7 := n_v_old (by rw [hl]; decide)
  have e_11 : n_v (vs ++ [Value.int x]) 11 = Value.int x := n_v_new hl
  have nf0 : fc_1 (20, [4, 11], [30, 0, 1, 1, 12, -1, 0, 0]) ws (vs ++ [Value.int x]) := by
    refine ⟨fun n hn => ?_, ?_⟩
    · have hn : n ∈ [4, 11] := hn
      rw [List.length_append, hl]
      simp only [List.mem_cons, List.not_mem_nil, or_false] at hn
      show n < 11 + 1; omega
    · show 1 * w_fi ws (n_v (vs ++ [Value.int x]) 4) 12 + ((-1) * v_iv (n_v (vs ++ [Value.int x]) 11) + 0) ≤ 0
      rw [e_4]
      rw [e_11]
      rw [q4]
      omega
  have nf1 : fc_1 (23, [11, 3, 7], [648, 1, -1, -450]) ws (vs ++ [Value.int x]) := by
    refine ⟨fun n hn => ?_, ?_⟩
    · have hn : n ∈ [11, 3, 7] := hn
      rw [List.length_append, hl]
      simp only [List.mem_cons, List.not_mem_nil, or_false] at hn
      show n < 11 + 1; omega
    · show 1 * v_iv (n_v (vs ++ [Value.int x]) 11) + ((-1) * v_iv (n_v (vs ++ [Value.int x]) 3) + ((-450) * v_iv (n_v (vs ++ [Value.int x]) 7) + 0)) ≤ 648
      rw [e_3]
      rw [e_7]
      rw [e_11]
      omega
  exact ⟨(fun _ h => (by cases h)), [Value.int x], ag_one hx, List.forall_mem_cons.mpr ⟨⟨show (20 : Nat) < 100 from by decide, nf0⟩, List.forall_mem_cons.mpr ⟨⟨show (23 : Nat) < 100 from by decide, nf1⟩, (fun _ h => (by cases h))⟩⟩, (fun _ h => (by cases h))⟩
def o_Ho_writeDrawing_8 : or_T := (76, 13, [(0, (2, 0, 0, [12])), (3, (0, 0, 99977752, [])), (4, (2, 0, 0, [12])), (7, (0, 0, 47, [])), (8, (0, 1, 48, [])), (11, (0, 0, 99999992, []))], [(23, [11, 3, 7], [648, 1, -1, -450]), (24, [0, 4], []), (20, [4, 11], [30, 8, 1, 1, 12, -1, 0, 0]), (102, [11], [261336857795280739939871698507597986398208, 12012]), (23, [11, 3, 7], [648, 1, -1, -450]), (7, [7, 8], [2])], [], [(0, 0, 99999999, [])], [(20, [4, 13], [30, 0, 1, 1, 12, -1, 0, 0]), (23, [13, 3, 7], [656, 1, -1, -450])], [], [(7, 8, -4294967296, -1)])
theorem oo_Ho_writeDrawing_8 {kA : Nat → ClassId} : or_ok kA GG o_Ho_writeDrawing_8 := by
  intro A ta ws vs hD hth hl hk hds hf
  have hl : vs.length = 13 := hl
  have hk : ∀ q ∈ ([(0, (2, 0, 0, [12])), (3, (0, 0, 99977752, [])), (4, (2, 0, 0, [12])), (7, (0, 0, 47, [])), (8, (0, 1, 48, [])), (11, (0, 0, 99999992, []))] : List (Nat × tv_T)), tv_ok ta q.2 (n_v vs q.1) := hk
  obtain ⟨t0, hk⟩ := List.forall_mem_cons.mp hk
  have t0 : tv_ok ta (2, 0, 0, [12]) (n_v vs 0) := t0
  have r0 : ta (v_ad (n_v vs 0)) = some 12 := tv_rg t0
  obtain ⟨t3, hk⟩ := List.forall_mem_cons.mp hk
  have t3 : tv_ok ta (0, 0, 99977752, []) (n_v vs 3) := t3
  have k3 : 0 ≤ v_iv (n_v vs 3) ∧ v_iv (n_v vs 3) ≤ 99977752 := tv_rng t3
  obtain ⟨t4, hk⟩ := List.forall_mem_cons.mp hk
  have t4 : tv_ok ta (2, 0, 0, [12]) (n_v vs 4) := t4
  have r4 : ta (v_ad (n_v vs 4)) = some 12 := tv_rg t4
  obtain ⟨t7, hk⟩ := List.forall_mem_cons.mp hk
  have t7 : tv_ok ta (0, 0, 47, []) (n_v vs 7) := t7
  have k7 : 0 ≤ v_iv (n_v vs 7) ∧ v_iv (n_v vs 7) ≤ 47 := tv_rng t7
  obtain ⟨t8, hk⟩ := List.forall_mem_cons.mp hk
  have t8 : tv_ok ta (0, 1, 48, []) (n_v vs 8) := t8
  have k8 : 1 ≤ v_iv (n_v vs 8) ∧ v_iv (n_v vs 8) ≤ 48 := tv_rng t8
  obtain ⟨t11, hk⟩ := List.forall_mem_cons.mp hk
  have t11 : tv_ok ta (0, 0, 99999992, []) (n_v vs 11) := t11
  have k11 : 0 ≤ v_iv (n_v vs 11) ∧ v_iv (n_v vs 11) ≤ 99999992 := tv_rng t11
  have hds : ∀ q ∈ ([(7, 8, -4294967296, -1)] : List of_T), n_iv vs q.2.1 + q.2.2.1 ≤ n_iv vs q.1 ∧ n_iv vs q.1 ≤ n_iv vs q.2.1 + q.2.2.2 := hds
  obtain ⟨d0, hds⟩ := List.forall_mem_cons.mp hds
  have d0 : v_iv (n_v vs 8) + (-4294967296) ≤ v_iv (n_v vs 7) ∧ v_iv (n_v vs 7) ≤ v_iv (n_v vs 8) + (-1) := d0
  have hf : fc_ok [(23, [11, 3, 7], [648, 1, -1, -450]), (24, [0, 4], []), (20, [4, 11], [30, 8, 1, 1, 12, -1, 0, 0]), (102, [11], [261336857795280739939871698507597986398208, 12012]), (23, [11, 3, 7], [648, 1, -1, -450]), (7, [7, 8], [2])] ta ws vs := hf
  obtain ⟨f0, hf⟩ := fc_un (show (23 : Nat) < 100 from by decide) hf
  have f0 : 1 * v_iv (n_v vs 11) + ((-1) * v_iv (n_v vs 3) + ((-450) * v_iv (n_v vs 7) + 0)) ≤ 648 := f0
  obtain ⟨f1, hf⟩ := fc_un (show (24 : Nat) < 100 from by decide) hf
  have f1 : n_v vs 0 = n_v vs 4 := f1
  obtain ⟨f2, hf⟩ := fc_un (show (20 : Nat) < 100 from by decide) hf
  have f2 : 1 * w_fi ws (n_v vs 4) 12 + ((-1) * v_iv (n_v vs 11) + 0) ≤ 8 := f2
  obtain ⟨ta1, w1, le1, ⟨_, s1⟩, hf⟩ := fc_us (show ¬ (102 : Nat) < 100 from by decide) hf
  obtain ⟨f4, hf⟩ := fc_un (show (23 : Nat) < 100 from by decide) hf
  have f4 : 1 * v_iv (n_v vs 11) + ((-1) * v_iv (n_v vs 3) + ((-450) * v_iv (n_v vs 7) + 0)) ≤ 648 := f4
  obtain ⟨f5, hf⟩ := fc_un (show (7 : Nat) < 100 from by decide) hf
  have f5 : v_iv (n_v vs 7) < v_iv (n_v vs 8) := f5
  have q4 : n_v vs 4 = n_v vs 0 := f1.symm
  rw [q4] at f2
  have kz_0_12 : 0 ≤ w_fi ws (n_v vs 0) 12 ∧ w_fi ws (n_v vs 0) 12 ≤ 100000000 := tv_rng (th_fd hD hth r0 (g := GG_12) rfl (k := 12) (t := (0, 0, 100000000, [])) rfl rfl)
  have kv0 : 0 ≤ w_fi ws (n_v vs 0) 12 ∧ w_fi ws (n_v vs 0) 12 ≤ 100000000 := tv_rng (th_fd hD hth r0 (g := GG_12) rfl (k := 12) (t := (0, 0, 100000000, [])) rfl rfl)
  obtain ⟨x, ex, hx⟩ := iv_ex (ta := ta) (lo := 0) (hi := 99999999) (z := w_fi ws (n_v vs 0) 12) (by omega) (by omega) (by omega) (by omega)
  have ex2 : v_iv (Value.int x) = w_fi ws (n_v vs 0) 12 := ex
  have ex3 : 0 ≤ v_iv (Value.int x) ∧ v_iv (Value.int x) ≤ 99999999 := tv_rng hx
  have e_3 : n_v (vs ++ [Value.int x]) 3 = n_v vs 3 := n_v_old (by rw [hl]; decide)
  have e_4 : n_v (vs ++ [Value.int x]) 4 = n_v vs 4 := n_v_old (by rw [hl]; decide)
  have e_7 : n_v (vs ++ [Value.int x]) 7 = n_v vs 7 := n_v_old (by rw [hl]; decide)
  have e_13 : n_v (vs ++ [Value.int x]) 13 = Value.int x := n_v_new hl
  have nf0 : fc_1 (20, [4, 13], [30, 0, 1, 1, 12, -1, 0, 0]) ws (vs ++ [Value.int x]) := by
    refine ⟨fun n hn => ?_, ?_⟩
    · have hn : n ∈ [4, 13] := hn
      rw [List.length_append, hl]
      simp only [List.mem_cons, List.not_mem_nil, or_false] at hn
      show n < 13 + 1; omega
    · show 1 * w_fi ws (n_v (vs ++ [Value.int x]) 4) 12 + ((-1) * v_iv (n_v (vs ++ [Value.int x]) 13) + 0) ≤ 0
      rw [e_4]
      rw [e_13]
      rw [q4]
      omega
  have nf1 : fc_1 (23, [13, 3, 7], [656, 1, -1, -450]) ws (vs ++ [Value.int x]) := by
    refine ⟨fun n hn => ?_, ?_⟩
    · have hn : n ∈ [13, 3, 7] := hn
      rw [List.length_append, hl]
      simp only [List.mem_cons, List.not_mem_nil, or_false] at hn
      show n < 13 + 1; omega
    · show 1 * v_iv (n_v (vs ++ [Value.int x]) 13) + ((-1) * v_iv (n_v (vs ++ [Value.int x]) 3) + ((-450) * v_iv (n_v (vs ++ [Value.int x]) 7) + 0)) ≤ 656
      rw [e_3]
      rw [e_7]
      rw [e_13]
      omega
  exact ⟨(fun _ h => (by cases h)), [Value.int x], ag_one hx, List.forall_mem_cons.mpr ⟨⟨show (20 : Nat) < 100 from by decide, nf0⟩, List.forall_mem_cons.mpr ⟨⟨show (23 : Nat) < 100 from by decide, nf1⟩, (fun _ h => (by cases h))⟩⟩, (fun _ h => (by cases h))⟩
def o_Ho_writeDrawing_9 : or_T := (86, 16, [(0, (2, 0, 0, [12])), (3, (0, 0, 99977752, [])), (4, (2, 0, 0, [12])), (7, (0, 0, 47, [])), (8, (0, 1, 48, [])), (11, (0, 0, 99999992, [])), (13, (0, 0, 99999999, []))], [(23, [13, 3, 7], [656, 1, -1, -450]), (23, [11, 3, 7], [648, 1, -1, -450]), (24, [0, 4], []), (20, [4, 13], [30, 1, 1, 1, 12, -1, 0, 0]), (102, [13], [261336857795280739939871698507597986398208, 12012]), (23, [13, 3, 7], [656, 1, -1, -450]), (23, [11, 3, 7], [648, 1, -1, -450]), (102, [11], [261336857795280739939871698507597986398208, 12012]), (23, [11, 3, 7], [648, 1, -1, -450]), (7, [7, 8], [2])], [], [(0, 0, 99999992, [])], [(20, [4, 16], [30, 0, 1, 1, 12, -1, 0, 0]), (23, [16, 3, 7], [657, 1, -1, -450])], [], [(7, 8, -4294967296, -1)])
theorem oo_Ho_writeDrawing_9 {kA : Nat → ClassId} : or_ok kA GG o_Ho_writeDrawing_9 := by
  intro A ta ws vs hD hth hl hk hds hf
  have hl : vs.length = 16 := hl
  have hk : ∀ q ∈ ([(0, (2, 0, 0, [12])), (3, (0, 0, 99977752, [])), (4, (2, 0, 0, [12])), (7, (0, 0, 47, [])), (8, (0, 1, 48, [])), (11, (0, 0, 99999992, [])), (13, (0, 0, 99999999, []))] : List (Nat × tv_T)), tv_ok ta q.2 (n_v vs q.1) := hk
  obtain ⟨t0, hk⟩ := List.forall_mem_cons.mp hk
  have t0 : tv_ok ta (2, 0, 0, [12]) (n_v vs 0) := t0
  have r0 : ta (v_ad (n_v vs 0)) = some 12 := tv_rg t0
  obtain ⟨t3, hk⟩ := List.forall_mem_cons.mp hk
  have t3 : tv_ok ta (0, 0, 99977752, []) (n_v vs 3) := t3
  have k3 : 0 ≤ v_iv (n_v vs 3) ∧ v_iv (n_v vs 3) ≤ 99977752 := tv_rng t3
  obtain ⟨t4, hk⟩ := List.forall_mem_cons.mp hk
  have t4 : tv_ok ta (2, 0, 0, [12]) (n_v vs 4) := t4
  have r4 : ta (v_ad (n_v vs 4)) = some 12 := tv_rg t4
  obtain ⟨t7, hk⟩ := List.forall_mem_cons.mp hk
  have t7 : tv_ok ta (0, 0, 47, []) (n_v vs 7) := t7
  have k7 : 0 ≤ v_iv (n_v vs 7) ∧ v_iv (n_v vs 7) ≤ 47 := tv_rng t7
  obtain ⟨t8, hk⟩ := List.forall_mem_cons.mp hk
  have t8 : tv_ok ta (0, 1, 48, []) (n_v vs 8) := t8
  have k8 : 1 ≤ v_iv (n_v vs 8) ∧ v_iv (n_v vs 8) ≤ 48 := tv_rng t8
  obtain ⟨t11, hk⟩ := List.forall_mem_cons.mp hk
  have t11 : tv_ok ta (0, 0, 99999992, []) (n_v vs 11) := t11
  have k11 : 0 ≤ v_iv (n_v vs 11) ∧ v_iv (n_v vs 11) ≤ 99999992 := tv_rng t11
  obtain ⟨t13, hk⟩ := List.forall_mem_cons.mp hk
  have t13 : tv_ok ta (0, 0, 99999999, []) (n_v vs 13) := t13
  have k13 : 0 ≤ v_iv (n_v vs 13) ∧ v_iv (n_v vs 13) ≤ 99999999 := tv_rng t13
  have hds : ∀ q ∈ ([(7, 8, -4294967296, -1)] : List of_T), n_iv vs q.2.1 + q.2.2.1 ≤ n_iv vs q.1 ∧ n_iv vs q.1 ≤ n_iv vs q.2.1 + q.2.2.2 := hds
  obtain ⟨d0, hds⟩ := List.forall_mem_cons.mp hds
  have d0 : v_iv (n_v vs 8) + (-4294967296) ≤ v_iv (n_v vs 7) ∧ v_iv (n_v vs 7) ≤ v_iv (n_v vs 8) + (-1) := d0
  have hf : fc_ok [(23, [13, 3, 7], [656, 1, -1, -450]), (23, [11, 3, 7], [648, 1, -1, -450]), (24, [0, 4], []), (20, [4, 13], [30, 1, 1, 1, 12, -1, 0, 0]), (102, [13], [261336857795280739939871698507597986398208, 12012]), (23, [13, 3, 7], [656, 1, -1, -450]), (23, [11, 3, 7], [648, 1, -1, -450]), (102, [11], [261336857795280739939871698507597986398208, 12012]), (23, [11, 3, 7], [648, 1, -1, -450]), (7, [7, 8], [2])] ta ws vs := hf
  obtain ⟨f0, hf⟩ := fc_un (show (23 : Nat) < 100 from by decide) hf
  have f0 : 1 * v_iv (n_v vs 13) + ((-1) * v_iv (n_v vs 3) + ((-450) * v_iv (n_v vs 7) + 0)) ≤ 656 := f0
  obtain ⟨f1, hf⟩ := fc_un (show (23 : Nat) < 100 from by decide) hf
  have f1 : 1 * v_iv (n_v vs 11) + ((-1) * v_iv (n_v vs 3) + ((-450) * v_iv (n_v vs 7) + 0)) ≤ 648 := f1
  obtain ⟨f2, hf⟩ := fc_un (show (24 : Nat) < 100 from by decide) hf
  have f2 : n_v vs 0 = n_v vs 4 := f2
  obtain ⟨f3, hf⟩ := fc_un (show (20 : Nat) < 100 from by decide) hf
  have f3 : 1 * w_fi ws (n_v vs 4) 12 + ((-1) * v_iv (n_v vs 13) + 0) ≤ 1 := f3
  obtain ⟨ta1, w1, le1, ⟨_, s1⟩, hf⟩ := fc_us (show ¬ (102 : Nat) < 100 from by decide) hf
  obtain ⟨f5, hf⟩ := fc_un (show (23 : Nat) < 100 from by decide) hf
  have f5 : 1 * v_iv (n_v vs 13) + ((-1) * v_iv (n_v vs 3) + ((-450) * v_iv (n_v vs 7) + 0)) ≤ 656 := f5
  obtain ⟨f6, hf⟩ := fc_un (show (23 : Nat) < 100 from by decide) hf
  have f6 : 1 * v_iv (n_v vs 11) + ((-1) * v_iv (n_v vs 3) + ((-450) * v_iv (n_v vs 7) + 0)) ≤ 648 := f6
  obtain ⟨ta2, w2, le2, ⟨_, s2⟩, hf⟩ := fc_us (show ¬ (102 : Nat) < 100 from by decide) hf
  obtain ⟨f8, hf⟩ := fc_un (show (23 : Nat) < 100 from by decide) hf
  have f8 : 1 * v_iv (n_v vs 11) + ((-1) * v_iv (n_v vs 3) + ((-450) * v_iv (n_v vs 7) + 0)) ≤ 648 := f8
  obtain ⟨f9, hf⟩ := fc_un (show (7 : Nat) < 100 from by decide) hf
  have f9 : v_iv (n_v vs 7) < v_iv (n_v vs 8) := f9
  have q4 : n_v vs 4 = n_v vs 0 := f2.symm
  rw [q4] at f3
  have kz_0_12 : 0 ≤ w_fi ws (n_v vs 0) 12 ∧ w_fi ws (n_v vs 0) 12 ≤ 100000000 := tv_rng (th_fd hD hth r0 (g := GG_12) rfl (k := 12) (t := (0, 0, 100000000, [])) rfl rfl)
  have kv0 : 0 ≤ w_fi ws (n_v vs 0) 12 ∧ w_fi ws (n_v vs 0) 12 ≤ 100000000 := tv_rng (th_fd hD hth r0 (g := GG_12) rfl (k := 12) (t := (0, 0, 100000000, [])) rfl rfl)
  obtain ⟨x, ex, hx⟩ := iv_ex (ta := ta) (lo := 0) (hi := 99999992) (z := w_fi ws (n_v vs 0) 12) (by omega) (by omega) (by omega) (by omega)
  have ex2 : v_iv (Value.int x) = w_fi ws (n_v vs 0) 12 := ex
  have ex3 : 0 ≤ v_iv (Value.int x) ∧ v_iv (Value.int x) ≤ 99999992 := tv_rng hx
  have e_3 : n_v (vs ++ [Value.int x]) 3 = n_v vs 3 := n_v_old (by rw [hl]; decide)
  have e_4 : n_v (vs ++ [Value.int x]) 4 = n_v vs 4 := n_v_old (by rw [hl]; decide)
  have e_7 : n_v (vs ++ [Value.int x]) 7 = n_v vs 7 := n_v_old (by rw [hl]; decide)
  have e_16 : n_v (vs ++ [Value.int x]) 16 = Value.int x := n_v_new hl
  have nf0 : fc_1 (20, [4, 16], [30, 0, 1, 1, 12, -1, 0, 0]) ws (vs ++ [Value.int x]) := by
    refine ⟨fun n hn => ?_, ?_⟩
    · have hn : n ∈ [4, 16] := hn
      rw [List.length_append, hl]
      simp only [List.mem_cons, List.not_mem_nil, or_false] at hn
      show n < 16 + 1; omega
    · show 1 * w_fi ws (n_v (vs ++ [Value.int x]) 4) 12 + ((-1) * v_iv (n_v (vs ++ [Value.int x]) 16) + 0) ≤ 0
      rw [e_4]
      rw [e_16]
      rw [q4]
      omega
  have nf1 : fc_1 (23, [16, 3, 7], [657, 1, -1, -450]) ws (vs ++ [Value.int x]) := by
    refine ⟨fun n hn => ?_, ?_⟩
    · have hn : n ∈ [16, 3, 7] := hn
      rw [List.length_append, hl]
      simp only [List.mem_cons, List.not_mem_nil, or_false] at hn
      show n < 16 + 1; omega
    · show 1 * v_iv (n_v (vs ++ [Value.int x]) 16) + ((-1) * v_iv (n_v (vs ++ [Value.int x]) 3) + ((-450) * v_iv (n_v (vs ++ [Value.int x]) 7) + 0)) ≤ 657
      rw [e_3]
      rw [e_7]
      rw [e_16]
      omega
  exact ⟨(fun _ h => (by cases h)), [Value.int x], ag_one hx, List.forall_mem_cons.mpr ⟨⟨show (20 : Nat) < 100 from by decide, nf0⟩, List.forall_mem_cons.mpr ⟨⟨show (23 : Nat) < 100 from by decide, nf1⟩, (fun _ h => (by cases h))⟩⟩, (fun _ h => (by cases h))⟩
def o_Ho_writeDrawing_10 : or_T := (92, 18, [(0, (2, 0, 0, [12])), (3, (0, 0, 99977752, [])), (4, (2, 0, 0, [12])), (7, (0, 0, 47, [])), (8, (0, 1, 48, [])), (11, (0, 0, 99999992, [])), (13, (0, 0, 99999999, [])), (16, (0, 0, 99999992, [])), (17, (0, 1, 1, []))], [(23, [16, 3, 7], [657, 1, -1, -450]), (23, [13, 3, 7], [656, 1, -1, -450]), (23, [11, 3, 7], [648, 1, -1, -450]), (24, [0, 4], []), (20, [4, 16], [30, 8, 1, 1, 12, -1, 0, 0]), (102, [16], [261336857795280739939871698507597986398208, 12012]), (23, [16, 3, 7], [657, 1, -1, -450]), (23, [13, 3, 7], [656, 1, -1, -450]), (23, [11, 3, 7], [648, 1, -1, -450]), (102, [13], [261336857795280739939871698507597986398208, 12012]), (23, [13, 3, 7], [656, 1, -1, -450]), (23, [11, 3, 7], [648, 1, -1, -450]), (102, [11], [261336857795280739939871698507597986398208, 12012]), (23, [11, 3, 7], [648, 1, -1, -450]), (7, [7, 8], [2])], [], [], [(20, [4, 3, 7, 17], [30, 647, 1, 1, 12, -1, 0, 0, -450, 0, 0, -18, 0, 0])], [], [(7, 8, -4294967296, -1)])
theorem oo_Ho_writeDrawing_10 {kA : Nat → ClassId} : or_ok kA GG o_Ho_writeDrawing_10 := by
  intro A ta ws vs hD hth hl hk hds hf
  have hl : vs.length = 18 := hl
  have hk : ∀ q ∈ ([(0, (2, 0, 0, [12])), (3, (0, 0, 99977752, [])), (4, (2, 0, 0, [12])), (7, (0, 0, 47, [])), (8, (0, 1, 48, [])), (11, (0, 0, 99999992, [])), (13, (0, 0, 99999999, [])), (16, (0, 0, 99999992, [])), (17, (0, 1, 1, []))] : List (Nat × tv_T)), tv_ok ta q.2 (n_v vs q.1) := hk
  obtain ⟨t0, hk⟩ := List.forall_mem_cons.mp hk
  have t0 : tv_ok ta (2, 0, 0, [12]) (n_v vs 0) := t0
  have r0 : ta (v_ad (n_v vs 0)) = some 12 := tv_rg t0
  obtain ⟨t3, hk⟩ := List.forall_mem_cons.mp hk
  have t3 : tv_ok ta (0, 0, 99977752, []) (n_v vs 3) := t3
  have k3 : 0 ≤ v_iv (n_v vs 3) ∧ v_iv (n_v vs 3) ≤ 99977752 := tv_rng t3
  obtain ⟨t4, hk⟩ := List.forall_mem_cons.mp hk
  have t4 : tv_ok ta (2, 0, 0, [12]) (n_v vs 4) := t4
  have r4 : ta (v_ad (n_v vs 4)) = some 12 := tv_rg t4
  obtain ⟨t7, hk⟩ := List.forall_mem_cons.mp hk
  have t7 : tv_ok ta (0, 0, 47, []) (n_v vs 7) := t7
  have k7 : 0 ≤ v_iv (n_v vs 7) ∧ v_iv (n_v vs 7) ≤ 47 := tv_rng t7
  obtain ⟨t8, hk⟩ := List.forall_mem_cons.mp hk
  have t8 : tv_ok ta (0, 1, 48, []) (n_v vs 8) := t8
  have k8 : 1 ≤ v_iv (n_v vs 8) ∧ v_iv (n_v vs 8) ≤ 48 := tv_rng t8
  obtain ⟨t11, hk⟩ := List.forall_mem_cons.mp hk
  have t11 : tv_ok ta (0, 0, 99999992, []) (n_v vs 11) := t11
  have k11 : 0 ≤ v_iv (n_v vs 11) ∧ v_iv (n_v vs 11) ≤ 99999992 := tv_rng t11
  obtain ⟨t13, hk⟩ := List.forall_mem_cons.mp hk
  have t13 : tv_ok ta (0, 0, 99999999, []) (n_v vs 13) := t13
  have k13 : 0 ≤ v_iv (n_v vs 13) ∧ v_iv (n_v vs 13) ≤ 99999999 := tv_rng t13
  obtain ⟨t16, hk⟩ := List.forall_mem_cons.mp hk
  have t16 : tv_ok ta (0, 0, 99999992, []) (n_v vs 16) := t16
  have k16 : 0 ≤ v_iv (n_v vs 16) ∧ v_iv (n_v vs 16) ≤ 99999992 := tv_rng t16
  obtain ⟨t17, hk⟩ := List.forall_mem_cons.mp hk
  have t17 : tv_ok ta (0, 1, 1, []) (n_v vs 17) := t17
  have k17 : 1 ≤ v_iv (n_v vs 17) ∧ v_iv (n_v vs 17) ≤ 1 := tv_rng t17
  have hds : ∀ q ∈ ([(7, 8, -4294967296, -1)] : List of_T), n_iv vs q.2.1 + q.2.2.1 ≤ n_iv vs q.1 ∧ n_iv vs q.1 ≤ n_iv vs q.2.1 + q.2.2.2 := hds
  obtain ⟨d0, hds⟩ := List.forall_mem_cons.mp hds
  have d0 : v_iv (n_v vs 8) + (-4294967296) ≤ v_iv (n_v vs 7) ∧ v_iv (n_v vs 7) ≤ v_iv (n_v vs 8) + (-1) := d0
  have hf : fc_ok [(23, [16, 3, 7], [657, 1, -1, -450]), (23, [13, 3, 7], [656, 1, -1, -450]), (23, [11, 3, 7], [648, 1, -1, -450]), (24, [0, 4], []), (20, [4, 16], [30, 8, 1, 1, 12, -1, 0, 0]), (102, [16], [261336857795280739939871698507597986398208, 12012]), (23, [16, 3, 7], [657, 1, -1, -450]), (23, [13, 3, 7], [656, 1, -1, -450]), (23, [11, 3, 7], [648, 1, -1, -450]), (102, [13], [261336857795280739939871698507597986398208, 12012]), (23, [13, 3, 7], [656, 1, -1, -450]), (23, [11, 3, 7], [648, 1, -1, -450]), (102, [11], [261336857795280739939871698507597986398208, 12012]), (23, [11, 3, 7], [648, 1, -1, -450]), (7, [7, 8], [2])] ta ws vs := hf
  obtain ⟨f0, hf⟩ := fc_un (show (23 : Nat) < 100 from by decide) hf
  have f0 : 1 * v_iv (n_v vs 16) + ((-1) * v_iv (n_v vs 3) + ((-450) * v_iv (n_v vs 7) + 0)) ≤ 657 := f0
  obtain ⟨f1, hf⟩ := fc_un (show (23 : Nat) < 100 from by decide) hf
  have f1 : 1 * v_iv (n_v vs 13) + ((-1) * v_iv (n_v vs 3) + ((-450) * v_iv (n_v vs 7) + 0)) ≤ 656 := f1
  obtain ⟨f2, hf⟩ := fc_un (show (23 : Nat) < 100 from by decide) hf
  have f2 : 1 * v_iv (n_v vs 11) + ((-1) * v_iv (n_v vs 3) + ((-450) * v_iv (n_v vs 7) + 0)) ≤ 648 := f2
  obtain ⟨f3, hf⟩ := fc_un (show (24 : Nat) < 100 from by decide) hf
  have f3 : n_v vs 0 = n_v vs 4 := f3
  obtain ⟨f4, hf⟩ := fc_un (show (20 : Nat) < 100 from by decide) hf
  have f4 : 1 * w_fi ws (n_v vs 4) 12 + ((-1) * v_iv (n_v vs 16) + 0) ≤ 8 := f4
  obtain ⟨ta1, w1, le1, ⟨_, s1⟩, hf⟩ := fc_us (show ¬ (102 : Nat) < 100 from by decide) hf
  obtain ⟨f6, hf⟩ := fc_un (show (23 : Nat) < 100 from by decide) hf
  have f6 : 1 * v_iv (n_v vs 16) + ((-1) * v_iv (n_v vs 3) + ((-450) * v_iv (n_v vs 7) + 0)) ≤ 657 := f6
  obtain ⟨f7, hf⟩ := fc_un (show (23 : Nat) < 100 from by decide) hf
  have f7 : 1 * v_iv (n_v vs 13) + ((-1) * v_iv (n_v vs 3) + ((-450) * v_iv (n_v vs 7) + 0)) ≤ 656 := f7
  obtain ⟨f8, hf⟩ := fc_un (show (23 : Nat) < 100 from by decide) hf
  have f8 : 1 * v_iv (n_v vs 11) + ((-1) * v_iv (n_v vs 3) + ((-450) * v_iv (n_v vs 7) + 0)) ≤ 648 := f8
  obtain ⟨ta2, w2, le2, ⟨_, s2⟩, hf⟩ := fc_us (show ¬ (102 : Nat) < 100 from by decide) hf
  obtain ⟨f10, hf⟩ := fc_un (show (23 : Nat) < 100 from by decide) hf
  have f10 : 1 * v_iv (n_v vs 13) + ((-1) * v_iv (n_v vs 3) + ((-450) * v_iv (n_v vs 7) + 0)) ≤ 656 := f10
  obtain ⟨f11, hf⟩ := fc_un (show (23 : Nat) < 100 from by decide) hf
  have f11 : 1 * v_iv (n_v vs 11) + ((-1) * v_iv (n_v vs 3) + ((-450) * v_iv (n_v vs 7) + 0)) ≤ 648 := f11
  obtain ⟨ta3, w3, le3, ⟨_, s3⟩, hf⟩ := fc_us (show ¬ (102 : Nat) < 100 from by decide) hf
  obtain ⟨f13, hf⟩ := fc_un (show (23 : Nat) < 100 from by decide) hf
  have f13 : 1 * v_iv (n_v vs 11) + ((-1) * v_iv (n_v vs 3) + ((-450) * v_iv (n_v vs 7) + 0)) ≤ 648 := f13
  obtain ⟨f14, hf⟩ := fc_un (show (7 : Nat) < 100 from by decide) hf
  have f14 : v_iv (n_v vs 7) < v_iv (n_v vs 8) := f14
  have q4 : n_v vs 4 = n_v vs 0 := f3.symm
  rw [q4] at f4
  have kz_0_12 : 0 ≤ w_fi ws (n_v vs 0) 12 ∧ w_fi ws (n_v vs 0) 12 ≤ 100000000 := tv_rng (th_fd hD hth r0 (g := GG_12) rfl (k := 12) (t := (0, 0, 100000000, [])) rfl rfl)
  have nf0 : fc_1 (20, [4, 3, 7, 17], [30, 647, 1, 1, 12, -1, 0, 0, -450, 0, 0, -18, 0, 0]) ws (vs) := by
    refine ⟨fun n hn => ?_, ?_⟩
    · have hn : n ∈ [4, 3, 7, 17] := hn
      rw [hl]
      simp only [List.mem_cons, List.not_mem_nil, or_false] at hn
      show n < 18; omega
    · show 1 * w_fi ws (n_v vs 4) 12 + ((-1) * v_iv (n_v vs 3) + ((-450) * v_iv (n_v vs 7) + ((-18) * v_iv (n_v vs 17) + 0))) ≤ 647
      rw [q4]
      omega
  refine ⟨(fun _ h => (by cases h)), [], trivial, ?_, (fun _ h => (by cases h))⟩
  rw [List.append_nil]
  exact List.forall_mem_cons.mpr ⟨⟨show (20 : Nat) < 100 from by decide, nf0⟩, (fun _ h => (by cases h))⟩
def o_Ho_writeDrawing_11 : or_T := (130, 12, [(0, (2, 0, 0, [12])), (3, (0, 0, 99977752, [])), (4, (2, 0, 0, [12])), (6, (2, 0, 0, [0])), (7, (0, 0, 47, [])), (8, (0, 1, 25, [])), (9, (2, 0, 0, [16])), (10, (0, 0, 24, []))], [(7, [8, 10], [4]), (10, [10, 9, 7], []), (9, [9, 6], [4]), (20, [4, 3, 7, 8], [30, 647, 1, 1, 12, -1, 0, 0, -450, 0, 0, -18, 0, 0]), (24, [0, 4], [])], [], [(0, 0, 99999999, [])], [(20, [4, 12], [30, 0, 1, 1, 12, -1, 0, 0]), (23, [12, 3, 7], [1097, 1, -1, -450])], [], [(8, 10, 1, 4294967296)])
theorem oo_Ho_writeDrawing_11 {kA : Nat → ClassId} : or_ok kA GG o_Ho_writeDrawing_11 := by
  intro A ta ws vs hD hth hl hk hds hf
  have hl : vs.length = 12 := hl
  have hk : ∀ q ∈ ([(0, (2, 0, 0, [12])), (3, (0, 0, 99977752, [])), (4, (2, 0, 0, [12])), (6, (2, 0, 0, [0])), (7, (0, 0, 47, [])), (8, (0, 1, 25, [])), (9, (2, 0, 0, [16])), (10, (0, 0, 24, []))] : List (Nat × tv_T)), tv_ok ta q.2 (n_v vs q.1) := hk
  obtain ⟨t0, hk⟩ := List.forall_mem_cons.mp hk
  have t0 : tv_ok ta (2, 0, 0, [12]) (n_v vs 0) := t0
  have r0 : ta (v_ad (n_v vs 0)) = some 12 := tv_rg t0
  obtain ⟨t3, hk⟩ := List.forall_mem_cons.mp hk
  have t3 : tv_ok ta (0, 0, 99977752, []) (n_v vs 3) := t3
  have k3 : 0 ≤ v_iv (n_v vs 3) ∧ v_iv (n_v vs 3) ≤ 99977752 := tv_rng t3
  obtain ⟨t4, hk⟩ := List.forall_mem_cons.mp hk
  have t4 : tv_ok ta (2, 0, 0, [12]) (n_v vs 4) := t4
  have r4 : ta (v_ad (n_v vs 4)) = some 12 := tv_rg t4
  obtain ⟨t6, hk⟩ := List.forall_mem_cons.mp hk
  have t6 : tv_ok ta (2, 0, 0, [0]) (n_v vs 6) := t6
  have r6 : ta (v_ad (n_v vs 6)) = some 0 := tv_rg t6
  obtain ⟨t7, hk⟩ := List.forall_mem_cons.mp hk
  have t7 : tv_ok ta (0, 0, 47, []) (n_v vs 7) := t7
  have k7 : 0 ≤ v_iv (n_v vs 7) ∧ v_iv (n_v vs 7) ≤ 47 := tv_rng t7
  obtain ⟨t8, hk⟩ := List.forall_mem_cons.mp hk
  have t8 : tv_ok ta (0, 1, 25, []) (n_v vs 8) := t8
  have k8 : 1 ≤ v_iv (n_v vs 8) ∧ v_iv (n_v vs 8) ≤ 25 := tv_rng t8
  obtain ⟨t9, hk⟩ := List.forall_mem_cons.mp hk
  have t9 : tv_ok ta (2, 0, 0, [16]) (n_v vs 9) := t9
  have r9 : ta (v_ad (n_v vs 9)) = some 16 := tv_rg t9
  obtain ⟨t10, hk⟩ := List.forall_mem_cons.mp hk
  have t10 : tv_ok ta (0, 0, 24, []) (n_v vs 10) := t10
  have k10 : 0 ≤ v_iv (n_v vs 10) ∧ v_iv (n_v vs 10) ≤ 24 := tv_rng t10
  have hds : ∀ q ∈ ([(8, 10, 1, 4294967296)] : List of_T), n_iv vs q.2.1 + q.2.2.1 ≤ n_iv vs q.1 ∧ n_iv vs q.1 ≤ n_iv vs q.2.1 + q.2.2.2 := hds
  obtain ⟨d0, hds⟩ := List.forall_mem_cons.mp hds
  have d0 : v_iv (n_v vs 10) + 1 ≤ v_iv (n_v vs 8) ∧ v_iv (n_v vs 8) ≤ v_iv (n_v vs 10) + 4294967296 := d0
  have hf : fc_ok [(7, [8, 10], [4]), (10, [10, 9, 7], []), (9, [9, 6], [4]), (20, [4, 3, 7, 8], [30, 647, 1, 1, 12, -1, 0, 0, -450, 0, 0, -18, 0, 0]), (24, [0, 4], [])] ta ws vs := hf
  obtain ⟨f0, hf⟩ := fc_un (show (7 : Nat) < 100 from by decide) hf
  have f0 : v_iv (n_v vs 10) < v_iv (n_v vs 8) := f0
  obtain ⟨f1, hf⟩ := fc_un (show (10 : Nat) < 100 from by decide) hf
  have f1 : v_iv (n_v vs 10) = w_el ws (v_ad (n_v vs 9)) (v_iv (n_v vs 7)).toNat := f1
  obtain ⟨f2, hf⟩ := fc_un (show (9 : Nat) < 100 from by decide) hf
  have f2 : n_v vs 9 = w_fd ws (v_ad (n_v vs 6)) 4 := f2
  obtain ⟨f3, hf⟩ := fc_un (show (20 : Nat) < 100 from by decide) hf
  have f3 : 1 * w_fi ws (n_v vs 4) 12 + ((-1) * v_iv (n_v vs 3) + ((-450) * v_iv (n_v vs 7) + ((-18) * v_iv (n_v vs 8) + 0))) ≤ 647 := f3
  obtain ⟨f4, hf⟩ := fc_un (show (24 : Nat) < 100 from by decide) hf
  have f4 : n_v vs 0 = n_v vs 4 := f4
  have q4 : n_v vs 4 = n_v vs 0 := f4.symm
  rw [q4] at f3
  have cr_6_4 : ta (w_ar ws (n_v vs 6) 4) = some 16 := tv_rg (th_fd hD hth r6 (g := GG_0) rfl (k := 4) (t := (2, 0, 0, [16])) rfl rfl)
  have ad_9 : v_ad (n_v vs 9) = w_ar ws (n_v vs 6) 4 := congrArg v_ad f2
  rw [ad_9] at f1
  have kz_0_12 : 0 ≤ w_fi ws (n_v vs 0) 12 ∧ w_fi ws (n_v vs 0) 12 ≤ 100000000 := tv_rng (th_fd hD hth r0 (g := GG_12) rfl (k := 12) (t := (0, 0, 100000000, [])) rfl rfl)
  have kv0 : 0 ≤ w_fi ws (n_v vs 0) 12 ∧ w_fi ws (n_v vs 0) 12 ≤ 100000000 := tv_rng (th_fd hD hth r0 (g := GG_12) rfl (k := 12) (t := (0, 0, 100000000, [])) rfl rfl)
  obtain ⟨x, ex, hx⟩ := iv_ex (ta := ta) (lo := 0) (hi := 99999999) (z := w_fi ws (n_v vs 0) 12) (by omega) (by omega) (by omega) (by omega)
  have ex2 : v_iv (Value.int x) = w_fi ws (n_v vs 0) 12 := ex
  have ex3 : 0 ≤ v_iv (Value.int x) ∧ v_iv (Value.int x) ≤ 99999999 := tv_rng hx
  have e_3 : n_v (vs ++ [Value.int x]) 3 = n_v vs 3 := n_v_old (by rw [hl]; decide)
  have e_4 : n_v (vs ++ [Value.int x]) 4 = n_v vs 4 := n_v_old (by rw [hl]; decide)
  have e_7 : n_v (vs ++ [Value.int x]) 7 = n_v vs 7 := n_v_old (by rw [hl]; decide)
  have e_12 : n_v (vs ++ [Value.int x]) 12 = Value.int x := n_v_new hl
  have nf0 : fc_1 (20, [4, 12], [30, 0, 1, 1, 12, -1, 0, 0]) ws (vs ++ [Value.int x]) := by
    refine ⟨fun n hn => ?_, ?_⟩
    · have hn : n ∈ [4, 12] := hn
      rw [List.length_append, hl]
      simp only [List.mem_cons, List.not_mem_nil, or_false] at hn
      show n < 12 + 1; omega
    · show 1 * w_fi ws (n_v (vs ++ [Value.int x]) 4) 12 + ((-1) * v_iv (n_v (vs ++ [Value.int x]) 12) + 0) ≤ 0
      rw [e_4]
      rw [e_12]
      rw [q4]
      omega
  have nf1 : fc_1 (23, [12, 3, 7], [1097, 1, -1, -450]) ws (vs ++ [Value.int x]) := by
    refine ⟨fun n hn => ?_, ?_⟩
    · have hn : n ∈ [12, 3, 7] := hn
      rw [List.length_append, hl]
      simp only [List.mem_cons, List.not_mem_nil, or_false] at hn
      show n < 12 + 1; omega
    · show 1 * v_iv (n_v (vs ++ [Value.int x]) 12) + ((-1) * v_iv (n_v (vs ++ [Value.int x]) 3) + ((-450) * v_iv (n_v (vs ++ [Value.int x]) 7) + 0)) ≤ 1097
      rw [e_3]
      rw [e_7]
      rw [e_12]
      omega
  exact ⟨(fun _ h => (by cases h)), [Value.int x], ag_one hx, List.forall_mem_cons.mpr ⟨⟨show (20 : Nat) < 100 from by decide, nf0⟩, List.forall_mem_cons.mpr ⟨⟨show (23 : Nat) < 100 from by decide, nf1⟩, (fun _ h => (by cases h))⟩⟩, (fun _ h => (by cases h))⟩
def o_Ho_writeDrawing_12 : or_T := (55, 14, [(0, (2, 0, 0, [12])), (3, (0, 0, 99977752, [])), (4, (2, 0, 0, [12])), (7, (0, 0, 47, [])), (12, (0, 0, 99999999, [])), (13, (0, 1, 48, []))], [(6, [13, 7], [1]), (23, [12, 3, 7], [1097, 1, -1, -450]), (24, [0, 4], []), (20, [4, 12], [30, 1, 1, 1, 12, -1, 0, 0]), (102, [12], [261336857795280739939871698507597986398208, 12012]), (23, [12, 3, 7], [1097, 1, -1, -450])], [], [], [(20, [4, 3, 13], [30, 648, 1, 1, 12, -1, 0, 0, -450, 0, 0])], [], [(13, 7, 1, 1)])
theorem oo_Ho_writeDrawing_12 {kA : Nat → ClassId} : or_ok kA GG o_Ho_writeDrawing_12 := by
  intro A ta ws vs hD hth hl hk hds hf
  have hl : vs.length = 14 := hl
  have hk : ∀ q ∈ ([(0, (2, 0, 0, [12])), (3, (0, 0, 99977752, [])), (4, (2, 0, 0, [12])), (7, (0, 0, 47, [])), (12, (0, 0, 99999999, [])), (13, (0, 1, 48, []))] : List (Nat × tv_T)), tv_ok ta q.2 (n_v vs q.1) := hk
  obtain ⟨t0, hk⟩ := List.forall_mem_cons.mp hk
  have t0 : tv_ok ta (2, 0, 0, [12]) (n_v vs 0) := t0
  have r0 : ta (v_ad (n_v vs 0)) = some 12 := tv_rg t0
  obtain ⟨t3, hk⟩ := List.forall_mem_cons.mp hk
  have t3 : tv_ok ta (0, 0, 99977752, []) (n_v vs 3) := t3
  have k3 : 0 ≤ v_iv (n_v vs 3) ∧ v_iv (n_v vs 3) ≤ 99977752 := tv_rng t3
  obtain ⟨t4, hk⟩ := List.forall_mem_cons.mp hk
  have t4 : tv_ok ta (2, 0, 0, [12]) (n_v vs 4) := t4
  have r4 : ta (v_ad (n_v vs 4)) = some 12 := tv_rg t4
  obtain ⟨t7, hk⟩ := List.forall_mem_cons.mp hk
  have t7 : tv_ok ta (0, 0, 47, []) (n_v vs 7) := t7
  have k7 : 0 ≤ v_iv (n_v vs 7) ∧ v_iv (n_v vs 7) ≤ 47 := tv_rng t7
  obtain ⟨t12, hk⟩ := List.forall_mem_cons.mp hk
  have t12 : tv_ok ta (0, 0, 99999999, []) (n_v vs 12) := t12
  have k12 : 0 ≤ v_iv (n_v vs 12) ∧ v_iv (n_v vs 12) ≤ 99999999 := tv_rng t12
  obtain ⟨t13, hk⟩ := List.forall_mem_cons.mp hk
  have t13 : tv_ok ta (0, 1, 48, []) (n_v vs 13) := t13
  have k13 : 1 ≤ v_iv (n_v vs 13) ∧ v_iv (n_v vs 13) ≤ 48 := tv_rng t13
  have hds : ∀ q ∈ ([(13, 7, 1, 1)] : List of_T), n_iv vs q.2.1 + q.2.2.1 ≤ n_iv vs q.1 ∧ n_iv vs q.1 ≤ n_iv vs q.2.1 + q.2.2.2 := hds
  obtain ⟨d0, hds⟩ := List.forall_mem_cons.mp hds
  have d0 : v_iv (n_v vs 7) + 1 ≤ v_iv (n_v vs 13) ∧ v_iv (n_v vs 13) ≤ v_iv (n_v vs 7) + 1 := d0
  have hf : fc_ok [(6, [13, 7], [1]), (23, [12, 3, 7], [1097, 1, -1, -450]), (24, [0, 4], []), (20, [4, 12], [30, 1, 1, 1, 12, -1, 0, 0]), (102, [12], [261336857795280739939871698507597986398208, 12012]), (23, [12, 3, 7], [1097, 1, -1, -450])] ta ws vs := hf
  obtain ⟨f0, hf⟩ := fc_un (show (6 : Nat) < 100 from by decide) hf
  have f0 : v_iv (n_v vs 13) = v_iv (n_v vs 7) + 1 := f0
  obtain ⟨f1, hf⟩ := fc_un (show (23 : Nat) < 100 from by decide) hf
  have f1 : 1 * v_iv (n_v vs 12) + ((-1) * v_iv (n_v vs 3) + ((-450) * v_iv (n_v vs 7) + 0)) ≤ 1097 := f1
  obtain ⟨f2, hf⟩ := fc_un (show (24 : Nat) < 100 from by decide) hf
  have f2 : n_v vs 0 = n_v vs 4 := f2
  obtain ⟨f3, hf⟩ := fc_un (show (20 : Nat) < 100 from by decide) hf
  have f3 : 1 * w_fi ws (n_v vs 4) 12 + ((-1) * v_iv (n_v vs 12) + 0) ≤ 1 := f3
  obtain ⟨ta1, w1, le1, ⟨_, s1⟩, hf⟩ := fc_us (show ¬ (102 : Nat) < 100 from by decide) hf
  obtain ⟨f5, hf⟩ := fc_un (show (23 : Nat) < 100 from by decide) hf
  have f5 : 1 * v_iv (n_v vs 12) + ((-1) * v_iv (n_v vs 3) + ((-450) * v_iv (n_v vs 7) + 0)) ≤ 1097 := f5
  have q4 : n_v vs 4 = n_v vs 0 := f2.symm
  rw [q4] at f3
  have kz_0_12 : 0 ≤ w_fi ws (n_v vs 0) 12 ∧ w_fi ws (n_v vs 0) 12 ≤ 100000000 := tv_rng (th_fd hD hth r0 (g := GG_12) rfl (k := 12) (t := (0, 0, 100000000, [])) rfl rfl)
  have nf0 : fc_1 (20, [4, 3, 13], [30, 648, 1, 1, 12, -1, 0, 0, -450, 0, 0]) ws (vs) := by
    refine ⟨fun n hn => ?_, ?_⟩
    · have hn : n ∈ [4, 3, 13] := hn
      rw [hl]
      simp only [List.mem_cons, List.not_mem_nil, or_false] at hn
      show n < 14; omega
    · show 1 * w_fi ws (n_v vs 4) 12 + ((-1) * v_iv (n_v vs 3) + ((-450) * v_iv (n_v vs 13) + 0)) ≤ 648
      rw [q4]
      omega
  refine ⟨(fun _ h => (by cases h)), [], trivial, ?_, (fun _ h => (by cases h))⟩
  rw [List.append_nil]
  exact List.forall_mem_cons.mpr ⟨⟨show (20 : Nat) < 100 from by decide, nf0⟩, (fun _ h => (by cases h))⟩
def o_Ho_writeDrawing_13 : or_T := (118, 13, [(0, (2, 0, 0, [12])), (3, (0, 0, 99977752, [])), (4, (2, 0, 0, [12])), (6, (2, 0, 0, [0])), (7, (0, 0, 47, [])), (8, (0, 1, 24, [])), (9, (2, 0, 0, [16])), (10, (0, 1, 24, []))], [(7, [8, 10], [5]), (10, [10, 9, 7], []), (9, [9, 6], [4]), (20, [4, 3, 7, 8], [30, 647, 1, 1, 12, -1, 0, 0, -450, 0, 0, -18, 0, 0]), (24, [0, 4], [])], [], [(0, 0, 99999982, [])], [(20, [4, 13], [30, 0, 1, 1, 12, -1, 0, 0]), (23, [13, 3, 7, 8], [647, 1, -1, -450, -18])], [], [(8, 10, -4294967296, 0)])
theorem oo_Ho_writeDrawing_13 {kA : Nat → ClassId} : or_ok kA GG o_Ho_writeDrawing_13 := by
  intro A ta ws vs hD hth hl hk hds hf
  have hl : vs.length = 13 := hl
  have hk : ∀ q ∈ ([(0, (2, 0, 0, [12])), (3, (0, 0, 99977752, [])), (4, (2, 0, 0, [12])), (6, (2, 0, 0, [0])), (7, (0, 0, 47, [])), (8, (0, 1, 24, [])), (9, (2, 0, 0, [16])), (10, (0, 1, 24, []))] : List (Nat × tv_T)), tv_ok ta q.2 (n_v vs q.1) := hk
  obtain ⟨t0, hk⟩ := List.forall_mem_cons.mp hk
  have t0 : tv_ok ta (2, 0, 0, [12]) (n_v vs 0) := t0
  have r0 : ta (v_ad (n_v vs 0)) = some 12 := tv_rg t0
  obtain ⟨t3, hk⟩ := List.forall_mem_cons.mp hk
  have t3 : tv_ok ta (0, 0, 99977752, []) (n_v vs 3) := t3
  have k3 : 0 ≤ v_iv (n_v vs 3) ∧ v_iv (n_v vs 3) ≤ 99977752 := tv_rng t3
  obtain ⟨t4, hk⟩ := List.forall_mem_cons.mp hk
  have t4 : tv_ok ta (2, 0, 0, [12]) (n_v vs 4) := t4
  have r4 : ta (v_ad (n_v vs 4)) = some 12 := tv_rg t4
  obtain ⟨t6, hk⟩ := List.forall_mem_cons.mp hk
  have t6 : tv_ok ta (2, 0, 0, [0]) (n_v vs 6) := t6
  have r6 : ta (v_ad (n_v vs 6)) = some 0 := tv_rg t6
  obtain ⟨t7, hk⟩ := List.forall_mem_cons.mp hk
  have t7 : tv_ok ta (0, 0, 47, []) (n_v vs 7) := t7
  have k7 : 0 ≤ v_iv (n_v vs 7) ∧ v_iv (n_v vs 7) ≤ 47 := tv_rng t7
  obtain ⟨t8, hk⟩ := List.forall_mem_cons.mp hk
  have t8 : tv_ok ta (0, 1, 24, []) (n_v vs 8) := t8
  have k8 : 1 ≤ v_iv (n_v vs 8) ∧ v_iv (n_v vs 8) ≤ 24 := tv_rng t8
  obtain ⟨t9, hk⟩ := List.forall_mem_cons.mp hk
  have t9 : tv_ok ta (2, 0, 0, [16]) (n_v vs 9) := t9
  have r9 : ta (v_ad (n_v vs 9)) = some 16 := tv_rg t9
  obtain ⟨t10, hk⟩ := List.forall_mem_cons.mp hk
  have t10 : tv_ok ta (0, 1, 24, []) (n_v vs 10) := t10
  have k10 : 1 ≤ v_iv (n_v vs 10) ∧ v_iv (n_v vs 10) ≤ 24 := tv_rng t10
  have hds : ∀ q ∈ ([(8, 10, -4294967296, 0)] : List of_T), n_iv vs q.2.1 + q.2.2.1 ≤ n_iv vs q.1 ∧ n_iv vs q.1 ≤ n_iv vs q.2.1 + q.2.2.2 := hds
  obtain ⟨d0, hds⟩ := List.forall_mem_cons.mp hds
  have d0 : v_iv (n_v vs 10) + (-4294967296) ≤ v_iv (n_v vs 8) ∧ v_iv (n_v vs 8) ≤ v_iv (n_v vs 10) + 0 := d0
  have hf : fc_ok [(7, [8, 10], [5]), (10, [10, 9, 7], []), (9, [9, 6], [4]), (20, [4, 3, 7, 8], [30, 647, 1, 1, 12, -1, 0, 0, -450, 0, 0, -18, 0, 0]), (24, [0, 4], [])] ta ws vs := hf
  obtain ⟨f0, hf⟩ := fc_un (show (7 : Nat) < 100 from by decide) hf
  have f0 : v_iv (n_v vs 8) ≤ v_iv (n_v vs 10) := f0
  obtain ⟨f1, hf⟩ := fc_un (show (10 : Nat) < 100 from by decide) hf
  have f1 : v_iv (n_v vs 10) = w_el ws (v_ad (n_v vs 9)) (v_iv (n_v vs 7)).toNat := f1
  obtain ⟨f2, hf⟩ := fc_un (show (9 : Nat) < 100 from by decide) hf
  have f2 : n_v vs 9 = w_fd ws (v_ad (n_v vs 6)) 4 := f2
  obtain ⟨f3, hf⟩ := fc_un (show (20 : Nat) < 100 from by decide) hf
  have f3 : 1 * w_fi ws (n_v vs 4) 12 + ((-1) * v_iv (n_v vs 3) + ((-450) * v_iv (n_v vs 7) + ((-18) * v_iv (n_v vs 8) + 0))) ≤ 647 := f3
  obtain ⟨f4, hf⟩ := fc_un (show (24 : Nat) < 100 from by decide) hf
  have f4 : n_v vs 0 = n_v vs 4 := f4
  have q4 : n_v vs 4 = n_v vs 0 := f4.symm
  rw [q4] at f3
  have cr_6_4 : ta (w_ar ws (n_v vs 6) 4) = some 16 := tv_rg (th_fd hD hth r6 (g := GG_0) rfl (k := 4) (t := (2, 0, 0, [16])) rfl rfl)
  have ad_9 : v_ad (n_v vs 9) = w_ar ws (n_v vs 6) 4 := congrArg v_ad f2
  rw [ad_9] at f1
  have kz_0_12 : 0 ≤ w_fi ws (n_v vs 0) 12 ∧ w_fi ws (n_v vs 0) 12 ≤ 100000000 := tv_rng (th_fd hD hth r0 (g := GG_12) rfl (k := 12) (t := (0, 0, 100000000, [])) rfl rfl)
  have kv0 : 0 ≤ w_fi ws (n_v vs 0) 12 ∧ w_fi ws (n_v vs 0) 12 ≤ 100000000 := tv_rng (th_fd hD hth r0 (g := GG_12) rfl (k := 12) (t := (0, 0, 100000000, [])) rfl rfl)
  obtain ⟨x, ex, hx⟩ := iv_ex (ta := ta) (lo := 0) (hi := 99999982) (z := w_fi ws (n_v vs 0) 12) (by omega) (by omega) (by omega) (by omega)
  have ex2 : v_iv (Value.int x) = w_fi ws (n_v vs 0) 12 := ex
  have ex3 : 0 ≤ v_iv (Value.int x) ∧ v_iv (Value.int x) ≤ 99999982 := tv_rng hx
  have e_3 : n_v (vs ++ [Value.int x]) 3 = n_v vs 3 := n_v_old (by rw [hl]; decide)
  have e_4 : n_v (vs ++ [Value.int x]) 4 = n_v vs 4 := n_v_old (by rw [hl]; decide)
  have e_7 : n_v (vs ++ [Value.int x]) 7 = n_v vs 7 := n_v_old (by rw [hl]; decide)
  have e_8 : n_v (vs ++ [Value.int x]) 8 = n_v vs 8 := n_v_old (by rw [hl]; decide)
  have e_13 : n_v (vs ++ [Value.int x]) 13 = Value.int x := n_v_new hl
  have nf0 : fc_1 (20, [4, 13], [30, 0, 1, 1, 12, -1, 0, 0]) ws (vs ++ [Value.int x]) := by
    refine ⟨fun n hn => ?_, ?_⟩
    · have hn : n ∈ [4, 13] := hn
      rw [List.length_append, hl]
      simp only [List.mem_cons, List.not_mem_nil, or_false] at hn
      show n < 13 + 1; omega
    · show 1 * w_fi ws (n_v (vs ++ [Value.int x]) 4) 12 + ((-1) * v_iv (n_v (vs ++ [Value.int x]) 13) + 0) ≤ 0
      rw [e_4]
      rw [e_13]
      rw [q4]
      omega
  have nf1 : fc_1 (23, [13, 3, 7, 8], [647, 1, -1, -450, -18]) ws (vs ++ [Value.int x]) := by
    refine ⟨fun n hn => ?_, ?_⟩
    · have hn : n ∈ [13, 3, 7, 8] := hn
      rw [List.length_append, hl]
      simp only [List.mem_cons, List.not_mem_nil, or_false] at hn
      show n < 13 + 1; omega
    · show 1 * v_iv (n_v (vs ++ [Value.int x]) 13) + ((-1) * v_iv (n_v (vs ++ [Value.int x]) 3) + ((-450) * v_iv (n_v (vs ++ [Value.int x]) 7) + ((-18) * v_iv (n_v (vs ++ [Value.int x]) 8) + 0))) ≤ 647
      rw [e_3]
      rw [e_7]
      rw [e_8]
      rw [e_13]
      omega
  exact ⟨(fun _ h => (by cases h)), [Value.int x], ag_one hx, List.forall_mem_cons.mpr ⟨⟨show (20 : Nat) < 100 from by decide, nf0⟩, List.forall_mem_cons.mpr ⟨⟨show (23 : Nat) < 100 from by decide, nf1⟩, (fun _ h => (by cases h))⟩⟩, (fun _ h => (by cases h))⟩
def o_Ho_writeDrawing_14 : or_T := (92, 15, [(0, (2, 0, 0, [12])), (3, (0, 0, 99977752, [])), (4, (2, 0, 0, [12])), (7, (0, 0, 47, [])), (8, (0, 1, 24, [])), (10, (0, 1, 24, [])), (13, (0, 0, 99999982, [])), (14, (0, 2, 25, []))], [(6, [14, 8], [1]), (23, [13, 3, 7, 8], [647, 1, -1, -450, -18]), (24, [0, 4], []), (20, [4, 13], [30, 18, 1, 1, 12, -1, 0, 0]), (102, [13], [261336857795280739939871698507597986398208, 12012]), (23, [13, 3, 7, 8], [647, 1, -1, -450, -18]), (7, [8, 10], [5])], [], [], [(20, [4, 3, 7, 14], [30, 647, 1, 1, 12, -1, 0, 0, -450, 0, 0, -18, 0, 0])], [], [(14, 8, 1, 1), (14, 10, -4294967296, 1), (8, 10, -4294967296, 0)])
theorem oo_Ho_writeDrawing_14 {kA : Nat → ClassId} : or_ok kA GG o_Ho_writeDrawing_14 := by
  intro A ta ws vs hD hth hl hk hds hf
  have hl : vs.length = 15 := hl
  have hk : ∀ q ∈ ([(0, (2, 0, 0, [12])), (3, (0, 0, 99977752, [])), (4, (2, 0, 0, [12])), (7, (0, 0, 47, [])), (8, (0, 1, 24, [])), (10, (0, 1, 24, [])), (13, (0, 0, 99999982, [])), (14, (0, 2, 25, []))] : List (Nat × tv_T)), tv_ok ta q.2 (n_v vs q.1) := hk
  obtain ⟨t0, hk⟩ := List.forall_mem_cons.mp hk
  have t0 : tv_ok ta (2, 0, 0, [12]) (n_v vs 0) := t0
  have r0 : ta (v_ad (n_v vs 0)) = some 12 := tv_rg t0
  obtain ⟨t3, hk⟩ := List.forall_mem_cons.mp hk
  have t3 : tv_ok ta (0, 0, 99977752, []) (n_v vs 3) := t3
  have k3 : 0 ≤ v_iv (n_v vs 3) ∧ v_iv (n_v vs 3) ≤ 99977752 := tv_rng t3
  obtain ⟨t4, hk⟩ := List.forall_mem_cons.mp hk
  have t4 : tv_ok ta (2, 0, 0, [12]) (n_v vs 4) := t4
  have r4 : ta (v_ad (n_v vs 4)) = some 12 := tv_rg t4
  obtain ⟨t7, hk⟩ := List.forall_mem_cons.mp hk
  have t7 : tv_ok ta (0, 0, 47, []) (n_v vs 7) := t7
  have k7 : 0 ≤ v_iv (n_v vs 7) ∧ v_iv (n_v vs 7) ≤ 47 := tv_rng t7
  obtain ⟨t8, hk⟩ := List.forall_mem_cons.mp hk
  have t8 : tv_ok ta (0, 1, 24, []) (n_v vs 8) := t8
  have k8 : 1 ≤ v_iv (n_v vs 8) ∧ v_iv (n_v vs 8) ≤ 24 := tv_rng t8
  obtain ⟨t10, hk⟩ := List.forall_mem_cons.mp hk
  have t10 : tv_ok ta (0, 1, 24, []) (n_v vs 10) := t10
  have k10 : 1 ≤ v_iv (n_v vs 10) ∧ v_iv (n_v vs 10) ≤ 24 := tv_rng t10
  obtain ⟨t13, hk⟩ := List.forall_mem_cons.mp hk
  have t13 : tv_ok ta (0, 0, 99999982, []) (n_v vs 13) := t13
  have k13 : 0 ≤ v_iv (n_v vs 13) ∧ v_iv (n_v vs 13) ≤ 99999982 := tv_rng t13
  obtain ⟨t14, hk⟩ := List.forall_mem_cons.mp hk
  have t14 : tv_ok ta (0, 2, 25, []) (n_v vs 14) := t14
  have k14 : 2 ≤ v_iv (n_v vs 14) ∧ v_iv (n_v vs 14) ≤ 25 := tv_rng t14
  have hds : ∀ q ∈ ([(14, 8, 1, 1), (14, 10, -4294967296, 1), (8, 10, -4294967296, 0)] : List of_T), n_iv vs q.2.1 + q.2.2.1 ≤ n_iv vs q.1 ∧ n_iv vs q.1 ≤ n_iv vs q.2.1 + q.2.2.2 := hds
  obtain ⟨d0, hds⟩ := List.forall_mem_cons.mp hds
  have d0 : v_iv (n_v vs 8) + 1 ≤ v_iv (n_v vs 14) ∧ v_iv (n_v vs 14) ≤ v_iv (n_v vs 8) + 1 := d0
  obtain ⟨d1, hds⟩ := List.forall_mem_cons.mp hds
  have d1 : v_iv (n_v vs 10) + (-4294967296) ≤ v_iv (n_v vs 14) ∧ v_iv (n_v vs 14) ≤ v_iv (n_v vs 10) + 1 := d1
  obtain ⟨d2, hds⟩ := List.forall_mem_cons.mp hds
  have d2 : v_iv (n_v vs 10) + (-4294967296) ≤ v_iv (n_v vs 8) ∧ v_iv (n_v vs 8) ≤ v_iv (n_v vs 10) + 0 := d2
  have hf : fc_ok [(6, [14, 8], [1]), (23, [13, 3, 7, 8], [647, 1, -1, -450, -18]), (24, [0, 4], []), (20, [4, 13], [30, 18, 1, 1, 12, -1, 0, 0]), (102, [13], [261336857795280739939871698507597986398208, 12012]), (23, [13, 3, 7, 8], [647, 1, -1, -450, -18]), (7, [8, 10], [5])] ta ws vs := hf
  obtain ⟨f0, hf⟩ := fc_un (show (6 : Nat) < 100 from by decide) hf
  have f0 : v_iv (n_v vs 14) = v_iv (n_v vs 8) + 1 := f0
  obtain ⟨f1, hf⟩ := fc_un (show (23 : Nat) < 100 from by decide) hf
  have f1 : 1 * v_iv (n_v vs 13) + ((-1) * v_iv (n_v vs 3) + ((-450) * v_iv (n_v vs 7) + ((-18) * v_iv (n_v vs 8) + 0))) ≤ 647 := f1
  obtain ⟨f2, hf⟩ := fc_un (show (24 : Nat) < 100 from by decide) hf
  have f2 : n_v vs 0 = n_v vs 4 := f2
  obtain ⟨f3, hf⟩ := fc_un (show (20 : Nat) < 100 from by decide) hf
  have f3 : 1 * w_fi ws (n_v vs 4) 12 + ((-1) * v_iv (n_v vs 13) + 0) ≤ 18 := f3
  obtain ⟨ta1, w1, le1, ⟨_, s1⟩, hf⟩ := fc_us (show ¬ (102 : Nat) < 100 from by decide) hf
  obtain ⟨f5, hf⟩ := fc_un (show (23 : Nat) < 100 from by decide) hf
  have f5 : 1 * v_iv (n_v vs 13) + ((-1) * v_iv (n_v vs 3) + ((-450) * v_iv (n_v vs 7) + ((-18) * v_iv (n_v vs 8) + 0))) ≤ 647 := f5
  obtain ⟨f6, hf⟩ := fc_un (show (7 : Nat) < 100 from by decide) hf
  have f6 : v_iv (n_v vs 8) ≤ v_iv (n_v vs 10) := f6
  have q4 : n_v vs 4 = n_v vs 0 := f2.symm
  rw [q4] at f3
  have kz_0_12 : 0 ≤ w_fi ws (n_v vs 0) 12 ∧ w_fi ws (n_v vs 0) 12 ≤ 100000000 := tv_rng (th_fd hD hth r0 (g := GG_12) rfl (k := 12) (t := (0, 0, 100000000, [])) rfl rfl)
  have nf0 : fc_1 (20, [4, 3, 7, 14], [30, 647, 1, 1, 12, -1, 0, 0, -450, 0, 0, -18, 0, 0]) ws (vs) := by
    refine ⟨fun n hn => ?_, ?_⟩
    · have hn : n ∈ [4, 3, 7, 14] := hn
      rw [hl]
      simp only [List.mem_cons, List.not_mem_nil, or_false] at hn
      show n < 15; omega
    · show 1 * w_fi ws (n_v vs 4) 12 + ((-1) * v_iv (n_v vs 3) + ((-450) * v_iv (n_v vs 7) + ((-18) * v_iv (n_v vs 14) + 0))) ≤ 647
      rw [q4]
      omega
  refine ⟨(fun _ h => (by cases h)), [], trivial, ?_, (fun _ h => (by cases h))⟩
  rw [List.append_nil]
  exact List.forall_mem_cons.mpr ⟨⟨show (20 : Nat) < 100 from by decide, nf0⟩, (fun _ h => (by cases h))⟩
def n_Ho_writeDrawing_an : List an_T := [(2, [(0, (2, 0, 0, [12])), (1, (2, 0, 0, [3])), (2, (2, 0, 0, [0])), (3, (0, 0, 24, []))], [], (0, 0), [(0, 0, 99998), (1, 7, 24), (0, 0, 100000), (0, 0, 0), (0, 0, 0)], [], [], [(2, 0, 0, [12]), (2, 0, 0, [3]), (2, 0, 0, [0]), (0, 0, 99977752, [])], 0, [], [(20, [4, 3, 7], [30, 0, 1, 1, 12, -1, 0, 0, -27, 0, 0]), (24, [0, 4], [])]), (55, [(0, (2, 0, 0, [12])), (1, (2, 0, 0, [3])), (2, (2, 0, 0, [0])), (3, (0, 0, 48, []))], [], (0, 0), [(0, 0, 99945), (1, 7, 48), (0, 0, 100000), (0, 0, 0), (0, 0, 0)], [], [], [(2, 0, 0, [12]), (2, 0, 0, [3]), (2, 0, 0, [0]), (0, 0, 99977752, [])], 0, [], [(20, [4, 3, 7], [30, 648, 1, 1, 12, -1, 0, 0, -450, 0, 0]), (24, [0, 4], [])]), (92, [(0, (2, 0, 0, [12])), (1, (2, 0, 0, [3])), (2, (2, 0, 0, [0])), (3, (0, 0, 47, [])), (4, (0, 1, 25, []))], [], (0, 0), [(0, 0, 99945), (1, 7, 48), (0, 0, 99908), (1, 8, 25), (0, 0, 100000)], [], [], [(2, 0, 0, [12]), (2, 0, 0, [3]), (2, 0, 0, [0]), (0, 0, 99977752, [])], 0, [], [(20, [4, 3, 7, 8], [30, 647, 1, 1, 12, -1, 0, 0, -450, 0, 0, -18, 0, 0]), (24, [0, 4], [])])]
def t_Ho_writeDrawing_ct : ct_L := [(1, 447, e_Ho_writeByte), (1, 471, e_Ho_writeNumber), (1, 488, e_Ho_writePoint), (1, 492, e_Dr_pointX), (1, 495, e_Dr_pointY), (70, 465, e_Ho_writeName_at_Grname)]
set_option maxRecDepth 100000 in
theorem c_Ho_writeDrawing {l : Launch} {D : va_G} {kA : Nat → ClassId} (h_Dr_pointX : ct_ok l D kA GG y_Dr_pointX z_Dr_pointX e_Dr_pointX) (h_Dr_pointY : ct_ok l D kA GG y_Dr_pointY z_Dr_pointY e_Dr_pointY) (h_Ho_writeByte : ct_ok l D kA GG y_Ho_writeByte z_Ho_writeByte e_Ho_writeByte) (h_Ho_writeName_at_Grname : ct_ok l D kA GG y_Ho_writeName_at_Grname z_Ho_writeName_at_Grname e_Ho_writeName_at_Grname) (h_Ho_writeNumber : ct_ok l D kA GG y_Ho_writeNumber z_Ho_writeNumber e_Ho_writeNumber) (h_Ho_writePoint : ct_ok l D kA GG y_Ho_writePoint z_Ho_writePoint e_Ho_writePoint) : ct_ok l D kA GG y_Ho_writeDrawing z_Ho_writeDrawing e_Ho_writeDrawing := chk_all_ok (FT := [(132, 3, 0), (141, 3, 1), (169, 3, 4), (200, 3, 7), (203, 3, 8), (230, 3, 3), (384, 0, 4), (391, 0, 2), (397, 0, 3)]) (PT := []) (CT := t_Ho_writeDrawing_ct) (KT := []) (NT := []) (AN := n_Ho_writeDrawing_an) (OT := [o_Ho_writeDrawing_0, o_Ho_writeDrawing_1, o_Ho_writeDrawing_2, o_Ho_writeDrawing_3, o_Ho_writeDrawing_4, o_Ho_writeDrawing_5, o_Ho_writeDrawing_6, o_Ho_writeDrawing_7, o_Ho_writeDrawing_8, o_Ho_writeDrawing_9, o_Ho_writeDrawing_10, o_Ho_writeDrawing_11, o_Ho_writeDrawing_12, o_Ho_writeDrawing_13, o_Ho_writeDrawing_14]) 5 360 (List.forall_mem_cons.mpr ⟨oo_Ho_writeDrawing_0, List.forall_mem_cons.mpr ⟨oo_Ho_writeDrawing_1, List.forall_mem_cons.mpr ⟨oo_Ho_writeDrawing_2, List.forall_mem_cons.mpr ⟨oo_Ho_writeDrawing_3, List.forall_mem_cons.mpr ⟨oo_Ho_writeDrawing_4, List.forall_mem_cons.mpr ⟨oo_Ho_writeDrawing_5, List.forall_mem_cons.mpr ⟨oo_Ho_writeDrawing_6, List.forall_mem_cons.mpr ⟨oo_Ho_writeDrawing_7, List.forall_mem_cons.mpr ⟨oo_Ho_writeDrawing_8, List.forall_mem_cons.mpr ⟨oo_Ho_writeDrawing_9, List.forall_mem_cons.mpr ⟨oo_Ho_writeDrawing_10, List.forall_mem_cons.mpr ⟨oo_Ho_writeDrawing_11, List.forall_mem_cons.mpr ⟨oo_Ho_writeDrawing_12, List.forall_mem_cons.mpr ⟨oo_Ho_writeDrawing_13, List.forall_mem_cons.mpr ⟨oo_Ho_writeDrawing_14, List.forall_mem_nil _⟩⟩⟩⟩⟩⟩⟩⟩⟩⟩⟩⟩⟩⟩⟩) (by decide +kernel) ⟨List.forall_mem_cons.mpr ⟨gf_Ho_132, List.forall_mem_cons.mpr ⟨gf_Ho_141, List.forall_mem_cons.mpr ⟨gf_Ho_169, List.forall_mem_cons.mpr ⟨gf_Ho_200, List.forall_mem_cons.mpr ⟨gf_Ho_203, List.forall_mem_cons.mpr ⟨gf_Ho_230, List.forall_mem_cons.mpr ⟨gf_Ho_384, List.forall_mem_cons.mpr ⟨gf_Ho_391, List.forall_mem_cons.mpr ⟨gf_Ho_397, List.forall_mem_nil _⟩⟩⟩⟩⟩⟩⟩⟩⟩, List.forall_mem_nil _, List.forall_mem_cons.mpr ⟨cl_virtual (y := y_Ho_writeByte) (ci := 12) rfl rfl ⟨_, _, rfl⟩ (by decide +kernel) h_Ho_writeByte wm_2345 wm_1 wm_2342 wm_2344 wv_12_0 ⟨by decide, by decide, by decide +kernel⟩ (by decide), List.forall_mem_cons.mpr ⟨cl_virtual (y := y_Ho_writeNumber) (ci := 12) rfl rfl ⟨_, _, rfl⟩ (by decide +kernel) h_Ho_writeNumber wm_2354 wm_1 wm_2351 wm_2353 wv_12_2 ⟨by decide, by decide, by decide +kernel⟩ (by decide), List.forall_mem_cons.mpr ⟨cl_virtual (y := y_Ho_writePoint) (ci := 12) rfl rfl ⟨_, _, rfl⟩ (by decide +kernel) h_Ho_writePoint wm_2376 wm_1 wm_2373 wm_2375 wv_12_5 ⟨by decide, by decide, by decide +kernel⟩ (by decide), List.forall_mem_cons.mpr ⟨cl_virtual (y := y_Dr_pointX) (ci := 0) rfl rfl ⟨_, _, rfl⟩ (by decide +kernel) h_Dr_pointX wm_1986 wm_8 wm_2377 wm_1984 wm_1985 ⟨by decide, by decide, by decide +kernel⟩ (by decide), List.forall_mem_cons.mpr ⟨cl_virtual (y := y_Dr_pointY) (ci := 0) rfl rfl ⟨_, _, rfl⟩ (by decide +kernel) h_Dr_pointY wm_1991 wm_8 wm_2378 wm_1989 wm_1990 ⟨by decide, by decide, by decide +kernel⟩ (by decide), List.forall_mem_cons.mpr ⟨cl_virtual (y := y_Ho_writeName_at_Grname) (ci := 12) rfl rfl ⟨_, _, rfl⟩ (by decide +kernel) h_Ho_writeName_at_Grname wm_2349 wm_1 wm_2346 wm_2348 wv_12_1 ⟨by decide, by decide, by decide +kernel⟩ (by decide), List.forall_mem_nil _⟩⟩⟩⟩⟩⟩, List.forall_mem_nil _, List.forall_mem_nil _, GG_pl⟩ (by decide +kernel)
def n_Dr_labelOf_an : List an_T := [(2, [(0, (2, 0, 0, [0])), (1, (0, 0, 47, [])), (2, (0, 0, 1, [])), (3, (0, 0, 48, []))], [], (0, 0), [(0, 0, 99998), (1, 3, 48), (0, 0, 100000)], [], [], [], 0, [], [])]
def t_Dr_labelOf_ct : ct_L := [(1, 124, e_Dr_putLabel)]
set_option maxRecDepth 100000 in
theorem c_Dr_labelOf {l : Launch} {D : va_G} {kA : Nat → ClassId} (h_Dr_putLabel : ct_ok l D kA GG y_Dr_putLabel z_Dr_putLabel e_Dr_putLabel) : ct_ok l D kA GG y_Dr_labelOf z_Dr_labelOf e_Dr_labelOf := chk_all_ok (FT := [(56, 0, 15), (59, 0, 16), (74, 0, 0), (121, 3, 9)]) (PT := []) (CT := t_Dr_labelOf_ct) (KT := [(0, 84, .int (Int32.ofInt (-2147483648)), (0, -2147483648, -2147483648, []))]) (NT := []) (AN := n_Dr_labelOf_an) (OT := []) 3 200 (List.forall_mem_nil _) (by decide +kernel) ⟨List.forall_mem_cons.mpr ⟨gf_Dr_56, List.forall_mem_cons.mpr ⟨gf_Dr_59, List.forall_mem_cons.mpr ⟨gf_Dr_74, List.forall_mem_cons.mpr ⟨gf_Dr_121, List.forall_mem_nil _⟩⟩⟩⟩, List.forall_mem_nil _, List.forall_mem_cons.mpr ⟨cl_virtual (y := y_Dr_putLabel) (ci := 0) rfl rfl ⟨_, _, rfl⟩ (by decide +kernel) h_Dr_putLabel wm_1982 wm_8 wm_1979 wm_1981 wv_9_9 ⟨by decide, by decide, by decide +kernel⟩ (by decide), List.forall_mem_nil _⟩, List.forall_mem_cons.mpr ⟨kx_Dr_0_84, List.forall_mem_nil _⟩, List.forall_mem_nil _, GG_pl⟩ (by decide +kernel)
