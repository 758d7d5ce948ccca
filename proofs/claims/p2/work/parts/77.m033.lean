def o_Mo_styleTokens_42 : or_T := (334, 22, [(0, (2, 0, 0, [150])), (2, (2, 0, 0, [150])), (6, (0, 0, 1999, [])), (10, (0, 0, 4001, []))], [(20, [2, 6], [50, 2, 0, 157, 11, 2, 7, 0, 3, 2, 0, 157, 1, 1, 1, 3, 2, 0, 11, 1, 1]), (20, [10, 6], [30, -4001, -1, 0, 0, -2, 0, 0]), (24, [0, 2], [])], [], [(0, 0, 4001, [])], [(20, [2, 6], [50, 2, 0, 157, 11, 2, 7, 0, 3, 2, 0, 157, 1, 1, 1, 3, 2, 0, 11, 1, 1]), (20, [22, 6], [30, -4001, -1, 0, 0, -2, 0, 0]), (24, [0, 2], [])], [(22, 10, 0, 0)], [])
theorem oo_Mo_styleTokens_42 {kA : Nat → ClassId} : or_ok kA GG o_Mo_styleTokens_42 := by
  intro A ta ws vs hD hth hl hk hds hf
  have hl : vs.length = 22 := hl
  have hk : ∀ q ∈ ([(0, (2, 0, 0, [150])), (2, (2, 0, 0, [150])), (6, (0, 0, 1999, [])), (10, (0, 0, 4001, []))] : List (Nat × tv_T)), tv_ok ta q.2 (n_v vs q.1) := hk
  obtain ⟨t0, hk⟩ := List.forall_mem_cons.mp hk
  have t0 : tv_ok ta (2, 0, 0, [150]) (n_v vs 0) := t0
  have r0 : ta (v_ad (n_v vs 0)) = some 150 := tv_rg t0
  obtain ⟨t2, hk⟩ := List.forall_mem_cons.mp hk
  have t2 : tv_ok ta (2, 0, 0, [150]) (n_v vs 2) := t2
  have r2 : ta (v_ad (n_v vs 2)) = some 150 := tv_rg t2
  obtain ⟨t6, hk⟩ := List.forall_mem_cons.mp hk
  have t6 : tv_ok ta (0, 0, 1999, []) (n_v vs 6) := t6
  have k6 : 0 ≤ v_iv (n_v vs 6) ∧ v_iv (n_v vs 6) ≤ 1999 := tv_rng t6
  obtain ⟨t10, hk⟩ := List.forall_mem_cons.mp hk
  have t10 : tv_ok ta (0, 0, 4001, []) (n_v vs 10) := t10
  have k10 : 0 ≤ v_iv (n_v vs 10) ∧ v_iv (n_v vs 10) ≤ 4001 := tv_rng t10
  have hf : fc_ok [(20, [2, 6], [50, 2, 0, 157, 11, 2, 7, 0, 3, 2, 0, 157, 1, 1, 1, 3, 2, 0, 11, 1, 1]), (20, [10, 6], [30, -4001, -1, 0, 0, -2, 0, 0]), (24, [0, 2], [])] ta ws vs := hf
  obtain ⟨f0, hf⟩ := fc_un (show (20 : Nat) < 100 from by decide) hf
  have f0 : (w_fi ws (n_v vs 2) 157 ≤ v_iv (n_v vs 6)) ∧ (w_fi ws (n_v vs 2) 11 = v_iv (n_v vs 6)) := f0
  obtain ⟨f1, hf⟩ := fc_un (show (20 : Nat) < 100 from by decide) hf
  have f1 : (-1) * v_iv (n_v vs 10) + ((-2) * v_iv (n_v vs 6) + 0) ≤ (-4001) := f1
  obtain ⟨f2, hf⟩ := fc_un (show (24 : Nat) < 100 from by decide) hf
  have f2 : n_v vs 0 = n_v vs 2 := f2
  have q2 : n_v vs 2 = n_v vs 0 := f2.symm
  rw [q2] at f0
  have kz_0_11 : 0 ≤ w_fi ws (n_v vs 0) 11 ∧ w_fi ws (n_v vs 0) 11 ≤ 2000 := tv_rng (th_fd hD hth r0 (g := GG_150) rfl (k := 11) (t := (0, 0, 2000, [])) rfl rfl)
  have kz_0_157 : 0 ≤ w_fi ws (n_v vs 0) 157 ∧ w_fi ws (n_v vs 0) 157 ≤ 2010 := tv_rng (th_fd hD hth r0 (g := GG_150) rfl (k := 157) (t := (0, 0, 2010, [])) rfl rfl)
  obtain ⟨x, ex, hx⟩ := iv_ex (ta := ta) (lo := 0) (hi := 4001) (z := 0 + (1 * v_iv (n_v vs 10) + 0)) (by omega) (by omega) (by omega) (by omega)
  have ex2 : v_iv (Value.int x) = 0 + (1 * v_iv (n_v vs 10) + 0) := ex
  have ex3 : 0 ≤ v_iv (Value.int x) ∧ v_iv (Value.int x) ≤ 4001 := tv_rng hx
  have e_0 : n_v (vs ++ [Value.int x]) 0 = n_v vs 0 := n_v_old (by rw [hl]; decide)
  have e_2 : n_v (vs ++ [Value.int x]) 2 = n_v vs 2 := n_v_old (by rw [hl]; decide)
  have e_6 : n_v (vs ++ [Value.int x]) 6 = n_v vs 6 := n_v_old (by rw [hl]; decide)
  have e_22 : n_v (vs ++ [Value.int x]) 22 = Value.int x := n_v_new hl
  have nf0 : fc_1 (20, [2, 6], [50, 2, 0, 157, 11, 2, 7, 0, 3, 2, 0, 157, 1, 1, 1, 3, 2, 0, 11, 1, 1]) ws (vs ++ [Value.int x]) := by
    refine ⟨fun n hn => ?_, ?_⟩
    · have hn : n ∈ [2, 6] := hn
      rw [List.length_append, hl]
      simp only [List.mem_cons, List.not_mem_nil, or_false] at hn
      show n < 22 + 1; omega
    · show (w_fi ws (n_v (vs ++ [Value.int x]) 2) 157 ≤ v_iv (n_v (vs ++ [Value.int x]) 6)) ∧ (w_fi ws (n_v (vs ++ [Value.int x]) 2) 11 = v_iv (n_v (vs ++ [Value.int x]) 6))
      rw [e_2]
      rw [e_6]
      rw [q2]
      first | omega | grind
  have nf1 : fc_1 (20, [22, 6], [30, -4001, -1, 0, 0, -2, 0, 0]) ws (vs ++ [Value.int x]) := by
    refine ⟨fun n hn => ?_, ?_⟩
    · have hn : n ∈ [22, 6] := hn
      rw [List.length_append, hl]
      simp only [List.mem_cons, List.not_mem_nil, or_false] at hn
      show n < 22 + 1; omega
    · show (-1) * v_iv (n_v (vs ++ [Value.int x]) 22) + ((-2) * v_iv (n_v (vs ++ [Value.int x]) 6) + 0) ≤ (-4001)
      rw [e_6]
      rw [e_22]
      omega
  have nf2 : fc_1 (24, [0, 2], []) ws (vs ++ [Value.int x]) := by
    refine ⟨fun n hn => ?_, ?_⟩
    · have hn : n ∈ [0, 2] := hn
      rw [List.length_append, hl]
      simp only [List.mem_cons, List.not_mem_nil, or_false] at hn
      show n < 22 + 1; omega
    · show n_v (vs ++ [Value.int x]) 0 = n_v (vs ++ [Value.int x]) 2
      first | rfl | simp only [e_0, e_2, q2]
  obtain ⟨x0, e0, _, _⟩ := tv_int t10 rfl
  have e1 : v_iv (n_v vs 10) = x0.toInt := by rw [e0]; rfl
  have ho : sy_ofs (vs ++ [Value.int x]) (22, 10, 0, 0) := by
    refine ⟨x, x0, by rw [List.getElem?_append_right (by rw [hl]; decide), hl]; rfl, ?_, ?_, ?_⟩
    · rw [List.getElem?_append_left (by rw [hl]; decide)]; exact n_v_some (by rw [hl]; decide) e0
    · show x0.toInt + 0 ≤ x.toInt; omega
    · show x.toInt ≤ x0.toInt + 0; omega
  exact ⟨(fun _ h => (by cases h)), [Value.int x], ag_one hx, List.forall_mem_cons.mpr ⟨⟨show (20 : Nat) < 100 from by decide, nf0⟩, List.forall_mem_cons.mpr ⟨⟨show (20 : Nat) < 100 from by decide, nf1⟩, List.forall_mem_cons.mpr ⟨⟨show (24 : Nat) < 100 from by decide, nf2⟩, (fun _ h => (by cases h))⟩⟩⟩, List.forall_mem_cons.mpr ⟨ho, (fun _ h => (by cases h))⟩⟩
def o_Mo_styleTokens_43 : or_T := (334, 23, [(0, (2, 0, 0, [150])), (2, (2, 0, 0, [150])), (6, (0, 0, 1999, [])), (10, (0, 0, 4001, []))], [(20, [2, 6], [50, 2, 0, 157, 11, 2, 7, 0, 3, 2, 0, 157, 1, 1, 1, 3, 2, 0, 11, 1, 1]), (20, [10, 6], [30, -4001, -1, 0, 0, -2, 0, 0]), (24, [0, 2], [])], [], [(0, 0, 4001, [])], [(20, [2, 6], [50, 2, 0, 157, 11, 2, 7, 0, 3, 2, 0, 157, 1, 1, 1, 3, 2, 0, 11, 1, 1]), (20, [23, 6], [30, -4001, -1, 0, 0, -2, 0, 0]), (24, [0, 2], [])], [(23, 10, 0, 0)], [])
theorem oo_Mo_styleTokens_43 {kA : Nat → ClassId} : or_ok kA GG o_Mo_styleTokens_43 := by
  intro A ta ws vs hD hth hl hk hds hf
  have hl : vs.length = 23 := hl
  have hk : ∀ q ∈ ([(0, (2, 0, 0, [150])), (2, (2, 0, 0, [150])), (6, (0, 0, 1999, [])), (10, (0, 0, 4001, []))] : List (Nat × tv_T)), tv_ok ta q.2 (n_v vs q.1) := hk
  obtain ⟨t0, hk⟩ := List.forall_mem_cons.mp hk
  have t0 : tv_ok ta (2, 0, 0, [150]) (n_v vs 0) := t0
  have r0 : ta (v_ad (n_v vs 0)) = some 150 := tv_rg t0
  obtain ⟨t2, hk⟩ := List.forall_mem_cons.mp hk
  have t2 : tv_ok ta (2, 0, 0, [150]) (n_v vs 2) := t2
  have r2 : ta (v_ad (n_v vs 2)) = some 150 := tv_rg t2
  obtain ⟨t6, hk⟩ := List.forall_mem_cons.mp hk
  have t6 : tv_ok ta (0, 0, 1999, []) (n_v vs 6) := t6
  have k6 : 0 ≤ v_iv (n_v vs 6) ∧ v_iv (n_v vs 6) ≤ 1999 := tv_rng t6
  obtain ⟨t10, hk⟩ := List.forall_mem_cons.mp hk
  have t10 : tv_ok ta (0, 0, 4001, []) (n_v vs 10) := t10
  have k10 : 0 ≤ v_iv (n_v vs 10) ∧ v_iv (n_v vs 10) ≤ 4001 := tv_rng t10
  have hf : fc_ok [(20, [2, 6], [50, 2, 0, 157, 11, 2, 7, 0, 3, 2, 0, 157, 1, 1, 1, 3, 2, 0, 11, 1, 1]), (20, [10, 6], [30, -4001, -1, 0, 0, -2, 0, 0]), (24, [0, 2], [])] ta ws vs := hf
  obtain ⟨f0, hf⟩ := fc_un (show (20 : Nat) < 100 from by decide) hf
  have f0 : (w_fi ws (n_v vs 2) 157 ≤ v_iv (n_v vs 6)) ∧ (w_fi ws (n_v vs 2) 11 = v_iv (n_v vs 6)) := f0
  obtain ⟨f1, hf⟩ := fc_un (show (20 : Nat) < 100 from by decide) hf
  have f1 : (-1) * v_iv (n_v vs 10) + ((-2) * v_iv (n_v vs 6) + 0) ≤ (-4001) := f1
  obtain ⟨f2, hf⟩ := fc_un (show (24 : Nat) < 100 from by decide) hf
  have f2 : n_v vs 0 = n_v vs 2 := f2
  have q2 : n_v vs 2 = n_v vs 0 := f2.symm
  rw [q2] at f0
  have kz_0_11 : 0 ≤ w_fi ws (n_v vs 0) 11 ∧ w_fi ws (n_v vs 0) 11 ≤ 2000 := tv_rng (th_fd hD hth r0 (g := GG_150) rfl (k := 11) (t := (0, 0, 2000, [])) rfl rfl)
  have kz_0_157 : 0 ≤ w_fi ws (n_v vs 0) 157 ∧ w_fi ws (n_v vs 0) 157 ≤ 2010 := tv_rng (th_fd hD hth r0 (g := GG_150) rfl (k := 157) (t := (0, 0, 2010, [])) rfl rfl)
  obtain ⟨x, ex, hx⟩ := iv_ex (ta := ta) (lo := 0) (hi := 4001) (z := 0 + (1 * v_iv (n_v vs 10) + 0)) (by omega) (by omega) (by omega) (by omega)
  have ex2 : v_iv (Value.int x) = 0 + (1 * v_iv (n_v vs 10) + 0) := ex
  have ex3 : 0 ≤ v_iv (Value.int x) ∧ v_iv (Value.int x) ≤ 4001 := tv_rng hx
  have e_0 : n_v (vs ++ [Value.int x]) 0 = n_v vs 0 := n_v_old (by rw [hl]; decide)
  have e_2 : n_v (vs ++ [Value.int x]) 2 = n_v vs 2 := n_v_old (by rw [hl]; decide)
  have e_6 : n_v (vs ++ [Value.int x]) 6 = n_v vs 6 := n_v_old (by rw [hl]; decide)
  have e_23 : n_v (vs ++ [Value.int x]) 23 = Value.int x := n_v_new hl
  have nf0 : fc_1 (20, [2, 6], [50, 2, 0, 157, 11, 2, 7, 0, 3, 2, 0, 157, 1, 1, 1, 3, 2, 0, 11, 1, 1]) ws (vs ++ [Value.int x]) := by
    refine ⟨fun n hn => ?_, ?_⟩
    · have hn : n ∈ [2, 6] := hn
      rw [List.length_append, hl]
      simp only [List.mem_cons, List.not_mem_nil, or_false] at hn
      show n < 23 + 1; omega
    · show (w_fi ws (n_v (vs ++ [Value.int x]) 2) 157 ≤ v_iv (n_v (vs ++ [Value.int x]) 6)) ∧ (w_fi ws (n_v (vs ++ [Value.int x]) 2) 11 = v_iv (n_v (vs ++ [Value.int x]) 6))
      rw [e_2]
      rw [e_6]
      rw [q2]
      first | omega | grind
  have nf1 : fc_1 (20, [23, 6], [30, -4001, -1, 0, 0, -2, 0, 0]) ws (vs ++ [Value.int x]) := by
    refine ⟨fun n hn => ?_, ?_⟩
    · have hn : n ∈ [23, 6] := hn
      rw [List.length_append, hl]
      simp only [List.mem_cons, List.not_mem_nil, or_false] at hn
      show n < 23 + 1; omega
    · show (-1) * v_iv (n_v (vs ++ [Value.int x]) 23) + ((-2) * v_iv (n_v (vs ++ [Value.int x]) 6) + 0) ≤ (-4001)
      rw [e_6]
      rw [e_23]
      omega
  have nf2 : fc_1 (24, [0, 2], []) ws (vs ++ [Value.int x]) := by
    refine ⟨fun n hn => ?_, ?_⟩
    · have hn : n ∈ [0, 2] := hn
      rw [List.length_append, hl]
      simp only [List.mem_cons, List.not_mem_nil, or_false] at hn
      show n < 23 + 1; omega
    · show n_v (vs ++ [Value.int x]) 0 = n_v (vs ++ [Value.int x]) 2
      first | rfl | simp only [e_0, e_2, q2]
  obtain ⟨x0, e0, _, _⟩ := tv_int t10 rfl
  have e1 : v_iv (n_v vs 10) = x0.toInt := by rw [e0]; rfl
  have ho : sy_ofs (vs ++ [Value.int x]) (23, 10, 0, 0) := by
    refine ⟨x, x0, by rw [List.getElem?_append_right (by rw [hl]; decide), hl]; rfl, ?_, ?_, ?_⟩
    · rw [List.getElem?_append_left (by rw [hl]; decide)]; exact n_v_some (by rw [hl]; decide) e0
    · show x0.toInt + 0 ≤ x.toInt; omega
    · show x.toInt ≤ x0.toInt + 0; omega
  exact ⟨(fun _ h => (by cases h)), [Value.int x], ag_one hx, List.forall_mem_cons.mpr ⟨⟨show (20 : Nat) < 100 from by decide, nf0⟩, List.forall_mem_cons.mpr ⟨⟨show (20 : Nat) < 100 from by decide, nf1⟩, List.forall_mem_cons.mpr ⟨⟨show (24 : Nat) < 100 from by decide, nf2⟩, (fun _ h => (by cases h))⟩⟩⟩, List.forall_mem_cons.mpr ⟨ho, (fun _ h => (by cases h))⟩⟩
def o_Mo_styleTokens_44 : or_T := (334, 24, [(0, (2, 0, 0, [150])), (2, (2, 0, 0, [150])), (6, (0, 0, 1999, [])), (10, (0, 0, 4001, []))], [(20, [2, 6], [50, 2, 0, 157, 11, 2, 7, 0, 3, 2, 0, 157, 1, 1, 1, 3, 2, 0, 11, 1, 1]), (20, [10, 6], [30, -4001, -1, 0, 0, -2, 0, 0]), (24, [0, 2], [])], [], [(0, 0, 4001, [])], [(20, [2, 6], [50, 2, 0, 157, 11, 2, 7, 0, 3, 2, 0, 157, 1, 1, 1, 3, 2, 0, 11, 1, 1]), (20, [24, 6], [30, -4001, -1, 0, 0, -2, 0, 0]), (24, [0, 2], [])], [(24, 10, 0, 0)], [])
theorem oo_Mo_styleTokens_44 {kA : Nat → ClassId} : or_ok kA GG o_Mo_styleTokens_44 := by
  intro A ta ws vs hD hth hl hk hds hf
  have hl : vs.length = 24 := hl
  have hk : ∀ q ∈ ([(0, (2, 0, 0, [150])), (2, (2, 0, 0, [150])), (6, (0, 0, 1999, [])), (10, (0, 0, 4001, []))] : List (Nat × tv_T)), tv_ok ta q.2 (n_v vs q.1) := hk
  obtain ⟨t0, hk⟩ := List.forall_mem_cons.mp hk
  have t0 : tv_ok ta (2, 0, 0, [150]) (n_v vs 0) := t0
  have r0 : ta (v_ad (n_v vs 0)) = some 150 := tv_rg t0
  obtain ⟨t2, hk⟩ := List.forall_mem_cons.mp hk
  have t2 : tv_ok ta (2, 0, 0, [150]) (n_v vs 2) := t2
  have r2 : ta (v_ad (n_v vs 2)) = some 150 := tv_rg t2
  obtain ⟨t6, hk⟩ := List.forall_mem_cons.mp hk
  have t6 : tv_ok ta (0, 0, 1999, []) (n_v vs 6) := t6
  have k6 : 0 ≤ v_iv (n_v vs 6) ∧ v_iv (n_v vs 6) ≤ 1999 := tv_rng t6
  obtain ⟨t10, hk⟩ := List.forall_mem_cons.mp hk
  have t10 : tv_ok ta (0, 0, 4001, []) (n_v vs 10) := t10
  have k10 : 0 ≤ v_iv (n_v vs 10) ∧ v_iv (n_v vs 10) ≤ 4001 := tv_rng t10
  have hf : fc_ok [(20, [2, 6], [50, 2, 0, 157, 11, 2, 7, 0, 3, 2, 0, 157, 1, 1, 1, 3, 2, 0, 11, 1, 1]), (20, [10, 6], [30, -4001, -1, 0, 0, -2, 0, 0]), (24, [0, 2], [])] ta ws vs := hf
  obtain ⟨f0, hf⟩ := fc_un (show (20 : Nat) < 100 from by decide) hf
  have f0 : (w_fi ws (n_v vs 2) 157 ≤ v_iv (n_v vs 6)) ∧ (w_fi ws (n_v vs 2) 11 = v_iv (n_v vs 6)) := f0
  obtain ⟨f1, hf⟩ := fc_un (show (20 : Nat) < 100 from by decide) hf
  have f1 : (-1) * v_iv (n_v vs 10) + ((-2) * v_iv (n_v vs 6) + 0) ≤ (-4001) := f1
  obtain ⟨f2, hf⟩ := fc_un (show (24 : Nat) < 100 from by decide) hf
  have f2 : n_v vs 0 = n_v vs 2 := f2
  have q2 : n_v vs 2 = n_v vs 0 := f2.symm
  rw [q2] at f0
  have kz_0_11 : 0 ≤ w_fi ws (n_v vs 0) 11 ∧ w_fi ws (n_v vs 0) 11 ≤ 2000 := tv_rng (th_fd hD hth r0 (g := GG_150) rfl (k := 11) (t := (0, 0, 2000, [])) rfl rfl)
  have kz_0_157 : 0 ≤ w_fi ws (n_v vs 0) 157 ∧ w_fi ws (n_v vs 0) 157 ≤ 2010 := tv_rng (th_fd hD hth r0 (g := GG_150) rfl (k := 157) (t := (0, 0, 2010, [])) rfl rfl)
  obtain ⟨x, ex, hx⟩ := iv_ex (ta := ta) (lo := 0) (hi := 4001) (z := 0 + (1 * v_iv (n_v vs 10) + 0)) (by omega) (by omega) (by omega) (by omega)
  have ex2 : v_iv (Value.int x) = 0 + (1 * v_iv (n_v vs 10) + 0) := ex
  have ex3 : 0 ≤ v_iv (Value.int x) ∧ v_iv (Value.int x) ≤ 4001 := tv_rng hx
  have e_0 : n_v (vs ++ [Value.int x]) 0 = n_v vs 0 := n_v_old (by rw [hl]; decide)
  have e_2 : n_v (vs ++ [Value.int x]) 2 = n_v vs 2 := n_v_old (by rw [hl]; decide)
  have e_6 : n_v (vs ++ [Value.int x]) 6 = n_v vs 6 := n_v_old (by rw [hl]; decide)
  have e_24 : n_v (vs ++ [Value.int x]) 24 = Value.int x := n_v_new hl
  have nf0 : fc_1 (20, [2, 6], [50, 2, 0, 157, 11, 2, 7, 0, 3, 2, 0, 157, 1, 1, 1, 3, 2, 0, 11, 1, 1]) ws (vs ++ [Value.int x]) := by
    refine ⟨fun n hn => ?_, ?_⟩
    · have hn : n ∈ [2, 6] := hn
      rw [List.length_append, hl]
      simp only [List.mem_cons, List.not_mem_nil, or_false] at hn
      show n < 24 + 1; omega
    · show (w_fi ws (n_v (vs ++ [Value.int x]) 2) 157 ≤ v_iv (n_v (vs ++ [Value.int x]) 6)) ∧ (w_fi ws (n_v (vs ++ [Value.int x]) 2) 11 = v_iv (n_v (vs ++ [Value.int x]) 6))
      rw [e_2]
      rw [e_6]
      rw [q2]
      first | omega | grind
  have nf1 : fc_1 (20, [24, 6], [30, -4001, -1, 0, 0, -2, 0, 0]) ws (vs ++ [Value.int x]) := by
    refine ⟨fun n hn => ?_, ?_⟩
    · have hn : n ∈ [24, 6] := hn
      rw [List.length_append, hl]
      simp only [List.mem_cons, List.not_mem_nil, or_false] at hn
      show n < 24 + 1; omega
    · show (-1) * v_iv (n_v (vs ++ [Value.int x]) 24) + ((-2) * v_iv (n_v (vs ++ [Value.int x]) 6) + 0) ≤ (-4001)
      rw [e_6]
      rw [e_24]
      omega
  have nf2 : fc_1 (24, [0, 2], []) ws (vs ++ [Value.int x]) := by
    refine ⟨fun n hn => ?_, ?_⟩
    · have hn : n ∈ [0, 2] := hn
      rw [List.length_append, hl]
      simp only [List.mem_cons, List.not_mem_nil, or_false] at hn
      show n < 24 + 1; omega
    · show n_v (vs ++ [Value.int x]) 0 = n_v (vs ++ [Value.int x]) 2
      first | rfl | simp only [e_0, e_2, q2]
  obtain ⟨x0, e0, _, _⟩ := tv_int t10 rfl
  have e1 : v_iv (n_v vs 10) = x0.toInt := by rw [e0]; rfl
  have ho : sy_ofs (vs ++ [Value.int x]) (24, 10, 0, 0) := by
    refine ⟨x, x0, by rw [List.getElem?_append_right (by rw [hl]; decide), hl]; rfl, ?_, ?_, ?_⟩
    · rw [List.getElem?_append_left (by rw [hl]; decide)]; exact n_v_some (by rw [hl]; decide) e0
    · show x0.toInt + 0 ≤ x.toInt; omega
    · show x.toInt ≤ x0.toInt + 0; omega
  exact ⟨(fun _ h => (by cases h)), [Value.int x], ag_one hx, List.forall_mem_cons.mpr ⟨⟨show (20 : Nat) < 100 from by decide, nf0⟩, List.forall_mem_cons.mpr ⟨⟨show (20 : Nat) < 100 from by decide, nf1⟩, List.forall_mem_cons.mpr ⟨⟨show (24 : Nat) < 100 from by decide, nf2⟩, (fun _ h => (by cases h))⟩⟩⟩, List.forall_mem_cons.mpr ⟨ho, (fun _ h => (by cases h))⟩⟩
def o_Mo_styleTokens_45 : or_T := (339, 26, [(0, (2, 0, 0, [150])), (2, (2, 0, 0, [150])), (6, (0, 0, 1999, [])), (10, (0, 0, 4001, []))], [(20, [2, 6], [50, 2, 0, 157, 11, 2, 7, 0, 3, 2, 0, 157, 1, 1, 1, 3, 2, 0, 11, 1, 1]), (20, [10, 6], [30, -4001, -1, 0, 0, -2, 0, 0]), (24, [0, 2], [])], [], [(0, 0, 4001, [])], [(20, [2, 6], [50, 2, 0, 157, 11, 2, 7, 0, 3, 2, 0, 157, 1, 1, 1, 3, 2, 0, 11, 1, 1]), (20, [26, 6], [30, -4001, -1, 0, 0, -2, 0, 0]), (24, [0, 2], [])], [(26, 10, 0, 0)], [])
theorem oo_Mo_styleTokens_45 {kA : Nat → ClassId} : or_ok kA GG o_Mo_styleTokens_45 := by
  intro A ta ws vs hD hth hl hk hds hf
  have hl : vs.length = 26 := hl
  have hk : ∀ q ∈ ([(0, (2, 0, 0, [150])), (2, (2, 0, 0, [150])), (6, (0, 0, 1999, [])), (10, (0, 0, 4001, []))] : List (Nat × tv_T)), tv_ok ta q.2 (n_v vs q.1) := hk
  obtain ⟨t0, hk⟩ := List.forall_mem_cons.mp hk
  have t0 : tv_ok ta (2, 0, 0, [150]) (n_v vs 0) := t0
  have r0 : ta (v_ad (n_v vs 0)) = some 150 := tv_rg t0
  obtain ⟨t2, hk⟩ := List.forall_mem_cons.mp hk
  have t2 : tv_ok ta (2, 0, 0, [150]) (n_v vs 2) := t2
  have r2 : ta (v_ad (n_v vs 2)) = some 150 := tv_rg t2
  obtain ⟨t6, hk⟩ := List.forall_mem_cons.mp hk
  have t6 : tv_ok ta (0, 0, 1999, []) (n_v vs 6) := t6
  have k6 : 0 ≤ v_iv (n_v vs 6) ∧ v_iv (n_v vs 6) ≤ 1999 := tv_rng t6
  obtain ⟨t10, hk⟩ := List.forall_mem_cons.mp hk
  have t10 : tv_ok ta (0, 0, 4001, []) (n_v vs 10) := t10
  have k10 : 0 ≤ v_iv (n_v vs 10) ∧ v_iv (n_v vs 10) ≤ 4001 := tv_rng t10
  have hf : fc_ok [(20, [2, 6], [50, 2, 0, 157, 11, 2, 7, 0, 3, 2, 0, 157, 1, 1, 1, 3, 2, 0, 11, 1, 1]), (20, [10, 6], [30, -4001, -1, 0, 0, -2, 0, 0]), (24, [0, 2], [])] ta ws vs := hf
  obtain ⟨f0, hf⟩ := fc_un (show (20 : Nat) < 100 from by decide) hf
  have f0 : (w_fi ws (n_v vs 2) 157 ≤ v_iv (n_v vs 6)) ∧ (w_fi ws (n_v vs 2) 11 = v_iv (n_v vs 6)) := f0
  obtain ⟨f1, hf⟩ := fc_un (show (20 : Nat) < 100 from by decide) hf
  have f1 : (-1) * v_iv (n_v vs 10) + ((-2) * v_iv (n_v vs 6) + 0) ≤ (-4001) := f1
  obtain ⟨f2, hf⟩ := fc_un (show (24 : Nat) < 100 from by decide) hf
  have f2 : n_v vs 0 = n_v vs 2 := f2
  have q2 : n_v vs 2 = n_v vs 0 := f2.symm
  rw [q2] at f0
  have kz_0_11 : 0 ≤ w_fi ws (n_v vs 0) 11 ∧ w_fi ws (n_v vs 0) 11 ≤ 2000 := tv_rng (th_fd hD hth r0 (g := GG_150) rfl (k := 11) (t := (0, 0, 2000, [])) rfl rfl)
  have kz_0_157 : 0 ≤ w_fi ws (n_v vs 0) 157 ∧ w_fi ws (n_v vs 0) 157 ≤ 2010 := tv_rng (th_fd hD hth r0 (g := GG_150) rfl (k := 157) (t := (0, 0, 2010, [])) rfl rfl)
  obtain ⟨x, ex, hx⟩ := iv_ex (ta := ta) (lo := 0) (hi := 4001) (z := 0 + (1 * v_iv (n_v vs 10) + 0)) (by omega) (by omega) (by omega) (by omega)
  have ex2 : v_iv (Value.int x) = 0 + (1 * v_iv (n_v vs 10) + 0) := ex
  have ex3 : 0 ≤ v_iv (Value.int x) ∧ v_iv (Value.int x) ≤ 4001 := tv_rng hx
  have e_0 : n_v (vs ++ [Value.int x]) 0 = n_v vs 0 := n_v_old (by rw [hl]; decide)
  have e_2 : n_v (vs ++ [Value.int x]) 2 = n_v vs 2 := n_v_old (by rw [hl]; decide)
  have e_6 : n_v (vs ++ [Value.int x]) 6 = n_v vs 6 := n_v_old (by rw [hl]; decide)
  have e_26 : n_v (vs ++ [Value.int x]) 26 = Value.int x := n_v_new hl
  have nf0 : fc_1 (20, [2, 6], [50, 2, 0, 157, 11, 2, 7, 0, 3, 2, 0, 157, 1, 1, 1, 3, 2, 0, 11, 1, 1]) ws (vs ++ [Value.int x]) := by
    refine ⟨fun n hn => ?_, ?_⟩
    · have hn : n ∈ [2, 6] := hn
      rw [List.length_append, hl]
      simp only [List.mem_cons, List.not_mem_nil, or_false] at hn
      show n < 26 + 1; omega
    · show (w_fi ws (n_v (vs ++ [Value.int x]) 2) 157 ≤ v_iv (n_v (vs ++ [Value.int x]) 6)) ∧ (w_fi ws (n_v (vs ++ [Value.int x]) 2) 11 = v_iv (n_v (vs ++ [Value.int x]) 6))
      rw [e_2]
      rw [e_6]
      rw [q2]
      first | omega | grind
  have nf1 : fc_1 (20, [26, 6], [30, -4001, -1, 0, 0, -2, 0, 0]) ws (vs ++ [Value.int x]) := by
    refine ⟨fun n hn => ?_, ?_⟩
    · have hn : n ∈ [26, 6] := hn
      rw [List.length_append, hl]
      simp only [List.mem_cons, List.not_mem_nil, or_false] at hn
      show n < 26 + 1; omega
    · show (-1) * v_iv (n_v (vs ++ [Value.int x]) 26) + ((-2) * v_iv (n_v (vs ++ [Value.int x]) 6) + 0) ≤ (-4001)
      rw [e_6]
      rw [e_26]
      omega
  have nf2 : fc_1 (24, [0, 2], []) ws (vs ++ [Value.int x]) := by
    refine ⟨fun n hn => ?_, ?_⟩
    · have hn : n ∈ [0, 2] := hn
      rw [List.length_append, hl]
      simp only [List.mem_cons, List.not_mem_nil, or_false] at hn
      show n < 26 + 1; omega
    · show n_v (vs ++ [Value.int x]) 0 = n_v (vs ++ [Value.int x]) 2
      first | rfl | simp only [e_0, e_2, q2]
  obtain ⟨x0, e0, _, _⟩ := tv_int t10 rfl
  have e1 : v_iv (n_v vs 10) = x0.toInt := by rw [e0]; rfl
  have ho : sy_ofs (vs ++ [Value.int x]) (26, 10, 0, 0) := by
    refine ⟨x, x0, by rw [List.getElem?_append_right (by rw [hl]; decide), hl]; rfl, ?_, ?_, ?_⟩
    · rw [List.getElem?_append_left (by rw [hl]; decide)]; exact n_v_some (by rw [hl]; decide) e0
    · show x0.toInt + 0 ≤ x.toInt; omega
    · show x.toInt ≤ x0.toInt + 0; omega
  exact ⟨(fun _ h => (by cases h)), [Value.int x], ag_one hx, List.forall_mem_cons.mpr ⟨⟨show (20 : Nat) < 100 from by decide, nf0⟩, List.forall_mem_cons.mpr ⟨⟨show (20 : Nat) < 100 from by decide, nf1⟩, List.forall_mem_cons.mpr ⟨⟨show (24 : Nat) < 100 from by decide, nf2⟩, (fun _ h => (by cases h))⟩⟩⟩, List.forall_mem_cons.mpr ⟨ho, (fun _ h => (by cases h))⟩⟩
def o_Mo_styleTokens_46 : or_T := (334, 25, [(0, (2, 0, 0, [150])), (2, (2, 0, 0, [150])), (6, (0, 0, 1999, [])), (10, (0, 0, 4001, []))], [(20, [2, 6], [50, 2, 0, 157, 11, 2, 7, 0, 3, 2, 0, 157, 1, 1, 1, 3, 2, 0, 11, 1, 1]), (20, [10, 6], [30, -4001, -1, 0, 0, -2, 0, 0]), (24, [0, 2], [])], [], [(0, 0, 4001, [])], [(20, [2, 6], [50, 2, 0, 157, 11, 2, 7, 0, 3, 2, 0, 157, 1, 1, 1, 3, 2, 0, 11, 1, 1]), (20, [25, 6], [30, -4001, -1, 0, 0, -2, 0, 0]), (24, [0, 2], [])], [(25, 10, 0, 0)], [])
theorem oo_Mo_styleTokens_46 {kA : Nat → ClassId} : or_ok kA GG o_Mo_styleTokens_46 := by
  intro A ta ws vs hD hth hl hk hds hf
  have hl : vs.length = 25 := hl
  have hk : ∀ q ∈ ([(0, (2, 0, 0, [150])), (2, (2, 0, 0, [150])), (6, (0, 0, 1999, [])), (10, (0, 0, 4001, []))] : List (Nat × tv_T)), tv_ok ta q.2 (n_v vs q.1) := hk
  obtain ⟨t0, hk⟩ := List.forall_mem_cons.mp hk
  have t0 : tv_ok ta (2, 0, 0, [150]) (n_v vs 0) := t0
  have r0 : ta (v_ad (n_v vs 0)) = some 150 := tv_rg t0
  obtain ⟨t2, hk⟩ := List.forall_mem_cons.mp hk
  have t2 : tv_ok ta (2, 0, 0, [150]) (n_v vs 2) := t2
  have r2 : ta (v_ad (n_v vs 2)) = some 150 := tv_rg t2
  obtain ⟨t6, hk⟩ := List.forall_mem_cons.mp hk
  have t6 : tv_ok ta (0, 0, 1999, []) (n_v vs 6) := t6
  have k6 : 0 ≤ v_iv (n_v vs 6) ∧ v_iv (n_v vs 6) ≤ 1999 := tv_rng t6
  obtain ⟨t10, hk⟩ := List.forall_mem_cons.mp hk
  have t10 : tv_ok ta (0, 0, 4001, []) (n_v vs 10) := t10
  have k10 : 0 ≤ v_iv (n_v vs 10) ∧ v_iv (n_v vs 10) ≤ 4001 := tv_rng t10
  have hf : fc_ok [(20, [2, 6], [50, 2, 0, 157, 11, 2, 7, 0, 3, 2, 0, 157, 1, 1, 1, 3, 2, 0, 11, 1, 1]), (20, [10, 6], [30, -4001, -1, 0, 0, -2, 0, 0]), (24, [0, 2], [])] ta ws vs := hf
  obtain ⟨f0, hf⟩ := fc_un (show (20 : Nat) < 100 from by decide) hf
  have f0 : (w_fi ws (n_v vs 2) 157 ≤ v_iv (n_v vs 6)) ∧ (w_fi ws (n_v vs 2) 11 = v_iv (n_v vs 6)) := f0
  obtain ⟨f1, hf⟩ := fc_un (show (20 : Nat) < 100 from by decide) hf
  have f1 : (-1) * v_iv (n_v vs 10) + ((-2) * v_iv (n_v vs 6) + 0) ≤ (-4001) := f1
  obtain ⟨f2, hf⟩ := fc_un (show (24 : Nat) < 100 from by decide) hf
  have f2 : n_v vs 0 = n_v vs 2 := f2
  have q2 : n_v vs 2 = n_v vs 0 := f2.symm
  rw [q2] at f0
  have kz_0_11 : 0 ≤ w_fi ws (n_v vs 0) 11 ∧ w_fi ws (n_v vs 0) 11 ≤ 2000 := tv_rng (th_fd hD hth r0 (g := GG_150) rfl (k := 11) (t := (0, 0, 2000, [])) rfl rfl)
  have kz_0_157 : 0 ≤ w_fi ws (n_v vs 0) 157 ∧ w_fi ws (n_v vs 0) 157 ≤ 2010 := tv_rng (th_fd hD hth r0 (g := GG_150) rfl (k := 157) (t := (0, 0, 2010, [])) rfl rfl)
  obtain ⟨x, ex, hx⟩ := iv_ex (ta := ta) (lo := 0) (hi := 4001) (z := 0 + (1 * v_iv (n_v vs 10) + 0)) (by omega) (by omega) (by omega) (by omega)
  have ex2 : v_iv (Value.int x) = 0 + (1 * v_iv (n_v vs 10) + 0) := ex
  have ex3 : 0 ≤ v_iv (Value.int x) ∧ v_iv (Value.int x) ≤ 4001 := tv_rng hx
  have e_0 : n_v (vs ++ [Value.int x]) 0 = n_v vs 0 := n_v_old (by rw [hl]; decide)
  have e_2 : n_v (vs ++ [Value.int x]) 2 = n_v vs 2 := n_v_old (by rw [hl]; decide)
  have e_6 : n_v (vs ++ [Value.int x]) 6 = n_v vs 6 := n_v_old (by rw [hl]; decide)
  have e_25 : n_v (vs ++ [Value.int x]) 25 = Value.int x := n_v_new hl
  have nf0 : fc_1 (20, [2, 6], [50, 2, 0, 157, 11, 2, 7, 0, 3, 2, 0, 157, 1, 1, 1, 3, 2, 0, 11, 1, 1]) ws (vs ++ [Value.int x]) := by
    refine ⟨fun n hn => ?_, ?_⟩
    · have hn : n ∈ [2, 6] := hn
      rw [List.length_append, hl]
      simp only [List.mem_cons, List.not_mem_nil, or_false] at hn
      show n < 25 + 1; omega
    · show (w_fi ws (n_v (vs ++ [Value.int x]) 2) 157 ≤ v_iv (n_v (vs ++ [Value.int x]) 6)) ∧ (w_fi ws (n_v (vs ++ [Value.int x]) 2) 11 = v_iv (n_v (vs ++ [Value.int x]) 6))
      rw [e_2]
      rw [e_6]
      rw [q2]
      first | omega | grind
  have nf1 : fc_1 (20, [25, 6], [30, -4001, -1, 0, 0, -2, 0, 0]) ws (vs ++ [Value.int x]) := by
    refine ⟨fun n hn => ?_, ?_⟩
    · have hn : n ∈ [25, 6] := hn
      rw [List.length_append, hl]
      simp only [List.mem_cons, List.not_mem_nil, or_false] at hn
      show n < 25 + 1; omega
    · show (-1) * v_iv (n_v (vs ++ [Value.int x]) 25) + ((-2) * v_iv (n_v (vs ++ [Value.int x]) 6) + 0) ≤ (-4001)
      rw [e_6]
      rw [e_25]
      omega
  have nf2 : fc_1 (24, [0, 2], []) ws (vs ++ [Value.int x]) := by
    refine ⟨fun n hn => ?_, ?_⟩
    · have hn : n ∈ [0, 2] := hn
      rw [List.length_append, hl]
      simp only [List.mem_cons, List.not_mem_nil, or_false] at hn
      show n < 25 + 1; omega
    · show n_v (vs ++ [Value.int x]) 0 = n_v (vs ++ [Value.int x]) 2
      first | rfl | simp only [e_0, e_2, q2]
  obtain ⟨x0, e0, _, _⟩ := tv_int t10 rfl
  have e1 : v_iv (n_v vs 10) = x0.toInt := by rw [e0]; rfl
  have ho : sy_ofs (vs ++ [Value.int x]) (25, 10, 0, 0) := by
    refine ⟨x, x0, by rw [List.getElem?_append_right (by rw [hl]; decide), hl]; rfl, ?_, ?_, ?_⟩
    · rw [List.getElem?_append_left (by rw [hl]; decide)]; exact n_v_some (by rw [hl]; decide) e0
    · show x0.toInt + 0 ≤ x.toInt; omega
    · show x.toInt ≤ x0.toInt + 0; omega
  exact ⟨(fun _ h => (by cases h)), [Value.int x], ag_one hx, List.forall_mem_cons.mpr ⟨⟨show (20 : Nat) < 100 from by decide, nf0⟩, List.forall_mem_cons.mpr ⟨⟨show (20 : Nat) < 100 from by decide, nf1⟩, List.forall_mem_cons.mpr ⟨⟨show (24 : Nat) < 100 from by decide, nf2⟩, (fun _ h => (by cases h))⟩⟩⟩, List.forall_mem_cons.mpr ⟨ho, (fun _ h => (by cases h))⟩⟩
def o_Mo_styleTokens_47 : or_T := (339, 12, [(0, (2, 0, 0, [150])), (2, (2, 0, 0, [150])), (6, (0, 0, 1999, [])), (10, (0, 0, 4001, []))], [(20, [2, 6], [50, 2, 0, 157, 11, 2, 7, 0, 3, 2, 0, 157, 1, 1, 1, 3, 2, 0, 11, 1, 1]), (20, [10, 6], [30, -4001, -1, 0, 0, -2, 0, 0]), (24, [0, 2], [])], [], [(0, 0, 4001, [])], [(20, [2, 6], [50, 2, 0, 157, 11, 2, 7, 0, 3, 2, 0, 157, 1, 1, 1, 3, 2, 0, 11, 1, 1]), (20, [12, 6], [30, -4001, -1, 0, 0, -2, 0, 0]), (24, [0, 2], [])], [(12, 10, 0, 0)], [])
theorem oo_Mo_styleTokens_47 {kA : Nat → ClassId} : or_ok kA GG o_Mo_styleTokens_47 := by
  intro A ta ws vs hD hth hl hk hds hf
  have hl : vs.length = 12 := hl
  have hk : ∀ q ∈ ([(0, (2, 0, 0, [150])), (2, (2, 0, 0, [150])), (6, (0, 0, 1999, [])), (10, (0, 0, 4001, []))] : List (Nat × tv_T)), tv_ok ta q.2 (n_v vs q.1) := hk
  obtain ⟨t0, hk⟩ := List.forall_mem_cons.mp hk
  have t0 : tv_ok ta (2, 0, 0, [150]) (n_v vs 0) := t0
  have r0 : ta (v_ad (n_v vs 0)) = some 150 := tv_rg t0
  obtain ⟨t2, hk⟩ := List.forall_mem_cons.mp hk
  have t2 : tv_ok ta (2, 0, 0, [150]) (n_v vs 2) := t2
  have r2 : ta (v_ad (n_v vs 2)) = some 150 := tv_rg t2
  obtain ⟨t6, hk⟩ := List.forall_mem_cons.mp hk
  have t6 : tv_ok ta (0, 0, 1999, []) (n_v vs 6) := t6
  have k6 : 0 ≤ v_iv (n_v vs 6) ∧ v_iv (n_v vs 6) ≤ 1999 := tv_rng t6
  obtain ⟨t10, hk⟩ := List.forall_mem_cons.mp hk
  have t10 : tv_ok ta (0, 0, 4001, []) (n_v vs 10) := t10
  have k10 : 0 ≤ v_iv (n_v vs 10) ∧ v_iv (n_v vs 10) ≤ 4001 := tv_rng t10
  have hf : fc_ok [(20, [2, 6], [50, 2, 0, 157, 11, 2, 7, 0, 3, 2, 0, 157, 1, 1, 1, 3, 2, 0, 11, 1, 1]), (20, [10, 6], [30, -4001, -1, 0, 0, -2, 0, 0]), (24, [0, 2], [])] ta ws vs := hf
  obtain ⟨f0, hf⟩ := fc_un (show (20 : Nat) < 100 from by decide) hf
  have f0 : (w_fi ws (n_v vs 2) 157 ≤ v_iv (n_v vs 6)) ∧ (w_fi ws (n_v vs 2) 11 = v_iv (n_v vs 6)) := f0
  obtain ⟨f1, hf⟩ := fc_un (show (20 : Nat) < 100 from by decide) hf
  have f1 : (-1) * v_iv (n_v vs 10) + ((-2) * v_iv (n_v vs 6) + 0) ≤ (-4001) := f1
  obtain ⟨f2, hf⟩ := fc_un (show (24 : Nat) < 100 from by decide) hf
  have f2 : n_v vs 0 = n_v vs 2 := f2
  have q2 : n_v vs 2 = n_v vs 0 := f2.symm
  rw [q2] at f0
  have kz_0_11 : 0 ≤ w_fi ws (n_v vs 0) 11 ∧ w_fi ws (n_v vs 0) 11 ≤ 2000 := tv_rng (th_fd hD hth r0 (g := GG_150) rfl (k := 11) (t := (0, 0, 2000, [])) rfl rfl)
  have kz_0_157 : 0 ≤ w_fi ws (n_v vs 0) 157 ∧ w_fi ws (n_v vs 0) 157 ≤ 2010 := tv_rng (th_fd hD hth r0 (g := GG_150) rfl (k := 157) (t := (0, 0, 2010, [])) rfl rfl)
  obtain ⟨x, ex, hx⟩ := iv_ex (ta := ta) (lo := 0) (hi := 4001) (z := 0 + (1 * v_iv (n_v vs 10) + 0)) (by omega) (by omega) (by omega) (by omega)
  have ex2 : v_iv (Value.int x) = 0 + (1 * v_iv (n_v vs 10) + 0) := ex
  have ex3 : 0 ≤ v_iv (Value.int x) ∧ v_iv (Value.int x) ≤ 4001 := tv_rng hx
  have e_0 : n_v (vs ++ [Value.int x]) 0 = n_v vs 0 := n_v_old (by rw [hl]; decide)
  have e_2 : n_v (vs ++ [Value.int x]) 2 = n_v vs 2 := n_v_old (by rw [hl]; decide)
  have e_6 : n_v (vs ++ [Value.int x]) 6 = n_v vs 6 := n_v_old (by rw [hl]; decide)
  have e_12 : n_v (vs ++ [Value.int x]) 12 = Value.int x := n_v_new hl
  have nf0 : fc_1 (20, [2, 6], [50, 2, 0, 157, 11, 2, 7, 0, 3, 2, 0, 157, 1, 1, 1, 3, 2, 0, 11, 1, 1]) ws (vs ++ [Value.int x]) := by
    refine ⟨fun n hn => ?_, ?_⟩
    · have hn : n ∈ [2, 6] := hn
      rw [List.length_append, hl]
      simp only [List.mem_cons, List.not_mem_nil, or_false] at hn
      show n < 12 + 1; omega
    · show (w_fi ws (n_v (vs ++ [Value.int x]) 2) 157 ≤ v_iv (n_v (vs ++ [Value.int x]) 6)) ∧ (w_fi ws (n_v (vs ++ [Value.int x]) 2) 11 = v_iv (n_v (vs ++ [Value.int x]) 6))
      rw [e_2]
      rw [e_6]
      rw [q2]
      first | omega | grind
  have nf1 : fc_1 (20, [12, 6], [30, -4001, -1, 0, 0, -2, 0, 0]) ws (vs ++ [Value.int x]) := by
    refine ⟨fun n hn => ?_, ?_⟩
    · have hn : n ∈ [12, 6] := hn
      rw [List.length_append, hl]
      simp only [List.mem_cons, List.not_mem_nil, or_false] at hn
      show n < 12 + 1; omega
    · show (-1) * v_iv (n_v (vs ++ [Value.int x]) 12) + ((-2) * v_iv (n_v (vs ++ [Value.int x]) 6) + 0) ≤ (-4001)
      rw [e_6]
      rw [e_12]
      omega
  have nf2 : fc_1 (24, [0, 2], []) ws (vs ++ [Value.int x]) := by
    refine ⟨fun n hn => ?_, ?_⟩
    · have hn : n ∈ [0, 2] := hn
      rw [List.length_append, hl]
      simp only [List.mem_cons, List.not_mem_nil, or_false] at hn
      show n < 12 + 1; omega
    · show n_v (vs ++ [Value.int x]) 0 = n_v (vs ++ [Value.int x]) 2
      first | rfl | simp only [e_0, e_2, q2]
  obtain ⟨x0, e0, _, _⟩ := tv_int t10 rfl
  have e1 : v_iv (n_v vs 10) = x0.toInt := by rw [e0]; rfl
  have ho : sy_ofs (vs ++ [Value.int x]) (12, 10, 0, 0) := by
    refine ⟨x, x0, by rw [List.getElem?_append_right (by rw [hl]; decide), hl]; rfl, ?_, ?_, ?_⟩
    · rw [List.getElem?_append_left (by rw [hl]; decide)]; exact n_v_some (by rw [hl]; decide) e0
    · show x0.toInt + 0 ≤ x.toInt; omega
    · show x.toInt ≤ x0.toInt + 0; omega
  exact ⟨(fun _ h => (by cases h)), [Value.int x], ag_one hx, List.forall_mem_cons.mpr ⟨⟨show (20 : Nat) < 100 from by decide, nf0⟩, List.forall_mem_cons.mpr ⟨⟨show (20 : Nat) < 100 from by decide, nf1⟩, List.forall_mem_cons.mpr ⟨⟨show (24 : Nat) < 100 from by decide, nf2⟩, (fun _ h => (by cases h))⟩⟩⟩, List.forall_mem_cons.mpr ⟨ho, (fun _ h => (by cases h))⟩⟩
def o_Mo_styleTokens_48 : or_T := (363, 15, [(0, (2, 0, 0, [150])), (2, (2, 0, 0, [150])), (6, (0, 0, 1999, [])), (10, (0, 0, 1999, [])), (11, (0, 0, 4001, [])), (12, (0, 4, 4, [])), (13, (0, 1, 1, [])), (14, (0, 1, 2000, []))], [(20, [11, 6], [30, -4001, -1, 0, 0, -2, 0, 0]), (24, [0, 2], []), (101, [2, 14], [11]), (1, [14, 10, 13], []), (9, [10, 2], [11]), (20, [2, 6], [50, 2, 0, 157, 11, 2, 7, 0, 3, 2, 0, 157, 1, 1, 1, 3, 2, 0, 11, 1, 1]), (20, [11, 6], [30, -4001, -1, 0, 0, -2, 0, 0])], [], [(0, 0, 4001, [])], [(20, [2, 6, 12], [50, 2, 0, 157, 11, 2, 7, 0, 3, 2, 0, 157, 1, 1, 2, 7, 0, 2, 1, 1, 2, 0, 11, 3, 6, 1, 2, 1, 2, 0, 0, 3, 6, 1, 2, 1, 2, 0, 4, 0, 6, 4, 2, 1, 1, 0, 1, 2, 0, 11]), (20, [15, 6], [30, -4001, -1, 0, 0, -2, 0, 0]), (24, [0, 2], [])], [(15, 11, 0, 0)], [(14, 10, 1, 1), (14, 6, -4294967296, 1), (6, 10, -4294967296, 0), (10, 6, -4294967296, 0)])
theorem oo_Mo_styleTokens_48 {kA : Nat → ClassId} : or_ok kA GG o_Mo_styleTokens_48 := by
  intro A ta ws vs hD hth hl hk hds hf
  have hl : vs.length = 15 := hl
  have hk : ∀ q ∈ ([(0, (2, 0, 0, [150])), (2, (2, 0, 0, [150])), (6, (0, 0, 1999, [])), (10, (0, 0, 1999, [])), (11, (0, 0, 4001, [])), (12, (0, 4, 4, [])), (13, (0, 1, 1, [])), (14, (0, 1, 2000, []))] : List (Nat × tv_T)), tv_ok ta q.2 (n_v vs q.1) := hk
  obtain ⟨t0, hk⟩ := List.forall_mem_cons.mp hk
  have t0 : tv_ok ta (2, 0, 0, [150]) (n_v vs 0) := t0
  have r0 : ta (v_ad (n_v vs 0)) = some 150 := tv_rg t0
  obtain ⟨t2, hk⟩ := List.forall_mem_cons.mp hk
  have t2 : tv_ok ta (2, 0, 0, [150]) (n_v vs 2) := t2
  have r2 : ta (v_ad (n_v vs 2)) = some 150 := tv_rg t2
  obtain ⟨t6, hk⟩ := List.forall_mem_cons.mp hk
  have t6 : tv_ok ta (0, 0, 1999, []) (n_v vs 6) := t6
  have k6 : 0 ≤ v_iv (n_v vs 6) ∧ v_iv (n_v vs 6) ≤ 1999 := tv_rng t6
  obtain ⟨t10, hk⟩ := List.forall_mem_cons.mp hk
  have t10 : tv_ok ta (0, 0, 1999, []) (n_v vs 10) := t10
  have k10 : 0 ≤ v_iv (n_v vs 10) ∧ v_iv (n_v vs 10) ≤ 1999 := tv_rng t10
  obtain ⟨t11, hk⟩ := List.forall_mem_cons.mp hk
  have t11 : tv_ok ta (0, 0, 4001, []) (n_v vs 11) := t11
  have k11 : 0 ≤ v_iv (n_v vs 11) ∧ v_iv (n_v vs 11) ≤ 4001 := tv_rng t11
  obtain ⟨t12, hk⟩ := List.forall_mem_cons.mp hk
  have t12 : tv_ok ta (0, 4, 4, []) (n_v vs 12) := t12
  have k12 : 4 ≤ v_iv (n_v vs 12) ∧ v_iv (n_v vs 12) ≤ 4 := tv_rng t12
  obtain ⟨t13, hk⟩ := List.forall_mem_cons.mp hk
  have t13 : tv_ok ta (0, 1, 1, []) (n_v vs 13) := t13
  have k13 : 1 ≤ v_iv (n_v vs 13) ∧ v_iv (n_v vs 13) ≤ 1 := tv_rng t13
  obtain ⟨t14, hk⟩ := List.forall_mem_cons.mp hk
  have t14 : tv_ok ta (0, 1, 2000, []) (n_v vs 14) := t14
  have k14 : 1 ≤ v_iv (n_v vs 14) ∧ v_iv (n_v vs 14) ≤ 2000 := tv_rng t14
  have hds : ∀ q ∈ ([(14, 10, 1, 1), (14, 6, -4294967296, 1), (6, 10, -4294967296, 0), (10, 6, -4294967296, 0)] : List of_T), n_iv vs q.2.1 + q.2.2.1 ≤ n_iv vs q.1 ∧ n_iv vs q.1 ≤ n_iv vs q.2.1 + q.2.2.2 := hds
  obtain ⟨d0, hds⟩ := List.forall_mem_cons.mp hds
  have d0 : v_iv (n_v vs 10) + 1 ≤ v_iv (n_v vs 14) ∧ v_iv (n_v vs 14) ≤ v_iv (n_v vs 10) + 1 := d0
  obtain ⟨d1, hds⟩ := List.forall_mem_cons.mp hds
  have d1 : v_iv (n_v vs 6) + (-4294967296) ≤ v_iv (n_v vs 14) ∧ v_iv (n_v vs 14) ≤ v_iv (n_v vs 6) + 1 := d1
  obtain ⟨d2, hds⟩ := List.forall_mem_cons.mp hds
  have d2 : v_iv (n_v vs 10) + (-4294967296) ≤ v_iv (n_v vs 6) ∧ v_iv (n_v vs 6) ≤ v_iv (n_v vs 10) + 0 := d2
  obtain ⟨d3, hds⟩ := List.forall_mem_cons.mp hds
  have d3 : v_iv (n_v vs 6) + (-4294967296) ≤ v_iv (n_v vs 10) ∧ v_iv (n_v vs 10) ≤ v_iv (n_v vs 6) + 0 := d3
  have hf : fc_ok [(20, [11, 6], [30, -4001, -1, 0, 0, -2, 0, 0]), (24, [0, 2], []), (101, [2, 14], [11]), (1, [14, 10, 13], []), (9, [10, 2], [11]), (20, [2, 6], [50, 2, 0, 157, 11, 2, 7, 0, 3, 2, 0, 157, 1, 1, 1, 3, 2, 0, 11, 1, 1]), (20, [11, 6], [30, -4001, -1, 0, 0, -2, 0, 0])] ta ws vs := hf
  obtain ⟨f0, hf⟩ := fc_un (show (20 : Nat) < 100 from by decide) hf
  have f0 : (-1) * v_iv (n_v vs 11) + ((-2) * v_iv (n_v vs 6) + 0) ≤ (-4001) := f0
  obtain ⟨f1, hf⟩ := fc_un (show (24 : Nat) < 100 from by decide) hf
  have f1 : n_v vs 0 = n_v vs 2 := f1
  obtain ⟨ta1, w1, le1, ⟨_, s1⟩, hf⟩ := fc_us (show ¬ (101 : Nat) < 100 from by decide) hf
  have s1 : (∀ b j, w_el ws b j = w_el w1 b j) ∧ ∀ b j, w_fd ws b j = if b = v_ad (n_v vs 2) ∧ j = 11 then n_v vs 14 else w_fd w1 b j := s1
  obtain ⟨f3, hf⟩ := fc_un (show (1 : Nat) < 100 from by decide) hf
  have f3 : v_iv (n_v vs 14) = v_iv (n_v vs 10) + v_iv (n_v vs 13) := f3
  obtain ⟨f4, hf⟩ := fc_un (show (9 : Nat) < 100 from by decide) hf
  have f4 : n_v vs 10 = w_fd w1 (v_ad (n_v vs 2)) 11 := f4
  obtain ⟨f5, hf⟩ := fc_un (show (20 : Nat) < 100 from by decide) hf
  have f5 : (w_fi w1 (n_v vs 2) 157 ≤ v_iv (n_v vs 6)) ∧ (w_fi w1 (n_v vs 2) 11 = v_iv (n_v vs 6)) := f5
  obtain ⟨f6, hf⟩ := fc_un (show (20 : Nat) < 100 from by decide) hf
  have f6 : (-1) * v_iv (n_v vs 11) + ((-2) * v_iv (n_v vs 6) + 0) ≤ (-4001) := f6
  have q2 : n_v vs 2 = n_v vs 0 := f1.symm
  rw [q2] at s1
  rw [q2] at f4
  rw [q2] at f5
  have g4 : v_iv (n_v vs 10) = w_fi w1 (n_v vs 0) 11 := congrArg v_iv f4
  have fe_0_11_1 : w_fi ws (n_v vs 0) 11 = v_iv (n_v vs 14) := by show v_iv (w_fd _ _ _) = _; rw [s1.2, if_pos ⟨rfl, rfl⟩]
  have fe_0_157_1 : w_fi ws (n_v vs 0) 157 = w_fi w1 (n_v vs 0) 157 := by show v_iv (w_fd _ _ _) = v_iv (w_fd _ _ _); rw [s1.2, if_neg (fun e => absurd e.2 (by decide))]
  have kz_0_11 : 0 ≤ w_fi ws (n_v vs 0) 11 ∧ w_fi ws (n_v vs 0) 11 ≤ 2000 := tv_rng (th_fd hD hth r0 (g := GG_150) rfl (k := 11) (t := (0, 0, 2000, [])) rfl rfl)
  have kz_0_157 : 0 ≤ w_fi ws (n_v vs 0) 157 ∧ w_fi ws (n_v vs 0) 157 ≤ 2010 := tv_rng (th_fd hD hth r0 (g := GG_150) rfl (k := 157) (t := (0, 0, 2010, [])) rfl rfl)
  obtain ⟨x, ex, hx⟩ := iv_ex (ta := ta) (lo := 0) (hi := 4001) (z := 0 + (1 * v_iv (n_v vs 11) + 0)) (by omega) (by omega) (by omega) (by omega)
  have ex2 : v_iv (Value.int x) = 0 + (1 * v_iv (n_v vs 11) + 0) := ex
  have ex3 : 0 ≤ v_iv (Value.int x) ∧ v_iv (Value.int x) ≤ 4001 := tv_rng hx
  have e_0 : n_v (vs ++ [Value.int x]) 0 = n_v vs 0 := n_v_old (by rw [hl]; decide)
  have e_2 : n_v (vs ++ [Value.int x]) 2 = n_v vs 2 := n_v_old (by rw [hl]; decide)
  have e_6 : n_v (vs ++ [Value.int x]) 6 = n_v vs 6 := n_v_old (by rw [hl]; decide)
  have e_12 : n_v (vs ++ [Value.int x]) 12 = n_v vs 12 := n_v_old (by rw [hl]; decide)
  have e_15 : n_v (vs ++ [Value.int x]) 15 = Value.int x := n_v_new hl
  have nf0 : fc_1 (20, [2, 6, 12], [50, 2, 0, 157, 11, 2, 7, 0, 3, 2, 0, 157, 1, 1, 2, 7, 0, 2, 1, 1, 2, 0, 11, 3, 6, 1, 2, 1, 2, 0, 0, 3, 6, 1, 2, 1, 2, 0, 4, 0, 6, 4, 2, 1, 1, 0, 1, 2, 0, 11]) ws (vs ++ [Value.int x]) := by
    refine ⟨fun n hn => ?_, ?_⟩
    · have hn : n ∈ [2, 6, 12] := hn
      rw [List.length_append, hl]
      simp only [List.mem_cons, List.not_mem_nil, or_false] at hn
      show n < 15 + 1; omega
    · show (w_fi ws (n_v (vs ++ [Value.int x]) 2) 157 ≤ v_iv (n_v (vs ++ [Value.int x]) 6)) ∧ ((v_iv (n_v (vs ++ [Value.int x]) 6) ≤ w_fi ws (n_v (vs ++ [Value.int x]) 2) 11) ∧ ((v_iv (n_v (vs ++ [Value.int x]) 12) = 0) ∨ ((v_iv (n_v (vs ++ [Value.int x]) 12) = 4) ∨ ((v_iv (n_v (vs ++ [Value.int x]) 6) + 1) ≤ w_fi ws (n_v (vs ++ [Value.int x]) 2) 11))))
      rw [e_2]
      rw [e_6]
      rw [e_12]
      rw [q2]
      first | omega | grind
  have nf1 : fc_1 (20, [15, 6], [30, -4001, -1, 0, 0, -2, 0, 0]) ws (vs ++ [Value.int x]) := by
    refine ⟨fun n hn => ?_, ?_⟩
    · have hn : n ∈ [15, 6] := hn
      rw [List.length_append, hl]
      simp only [List.mem_cons, List.not_mem_nil, or_false] at hn
      show n < 15 + 1; omega
    · show (-1) * v_iv (n_v (vs ++ [Value.int x]) 15) + ((-2) * v_iv (n_v (vs ++ [Value.int x]) 6) + 0) ≤ (-4001)
      rw [e_6]
      rw [e_15]
      omega
  have nf2 : fc_1 (24, [0, 2], []) ws (vs ++ [Value.int x]) := by
    refine ⟨fun n hn => ?_, ?_⟩
    · have hn : n ∈ [0, 2] := hn
      rw [List.length_append, hl]
      simp only [List.mem_cons, List.not_mem_nil, or_false] at hn
      show n < 15 + 1; omega
    · show n_v (vs ++ [Value.int x]) 0 = n_v (vs ++ [Value.int x]) 2
      first | rfl | simp only [e_0, e_2, q2]
  obtain ⟨x0, e0, _, _⟩ := tv_int t11 rfl
  have e1 : v_iv (n_v vs 11) = x0.toInt := by rw [e0]; rfl
  have ho : sy_ofs (vs ++ [Value.int x]) (15, 11, 0, 0) := by
    refine ⟨x, x0, by rw [List.getElem?_append_right (by rw [hl]; decide), hl]; rfl, ?_, ?_, ?_⟩
    · rw [List.getElem?_append_left (by rw [hl]; decide)]; exact n_v_some (by rw [hl]; decide) e0
    · show x0.toInt + 0 ≤ x.toInt; omega
    · show x.toInt ≤ x0.toInt + 0; omega
  exact ⟨(fun _ h => (by cases h)), [Value.int x], ag_one hx, List.forall_mem_cons.mpr ⟨⟨show (20 : Nat) < 100 from by decide, nf0⟩, List.forall_mem_cons.mpr ⟨⟨show (20 : Nat) < 100 from by decide, nf1⟩, List.forall_mem_cons.mpr ⟨⟨show (24 : Nat) < 100 from by decide, nf2⟩, (fun _ h => (by cases h))⟩⟩⟩, List.forall_mem_cons.mpr ⟨ho, (fun _ h => (by cases h))⟩⟩
def o_Mo_styleTokens_49 : or_T := (363, 15, [(0, (2, 0, 0, [150])), (2, (2, 0, 0, [150])), (6, (0, 0, 1999, [])), (10, (0, 0, 1999, [])), (11, (0, 0, 4001, [])), (12, (0, 3, 3, [])), (13, (0, 1, 1, [])), (14, (0, 1, 2000, []))], [(20, [11, 6], [30, -4001, -1, 0, 0, -2, 0, 0]), (24, [0, 2], []), (101, [2, 14], [11]), (1, [14, 10, 13], []), (9, [10, 2], [11]), (20, [2, 6], [50, 2, 0, 157, 11, 2, 7, 0, 3, 2, 0, 157, 1, 1, 1, 3, 2, 0, 11, 1, 1]), (20, [11, 6], [30, -4001, -1, 0, 0, -2, 0, 0])], [], [(0, 0, 4001, [])], [(20, [2, 6, 12], [50, 2, 0, 157, 11, 2, 7, 0, 3, 2, 0, 157, 1, 1, 2, 7, 0, 2, 1, 1, 2, 0, 11, 3, 6, 1, 2, 1, 2, 0, 0, 3, 6, 1, 2, 1, 2, 0, 4, 0, 6, 4, 2, 1, 1, 0, 1, 2, 0, 11]), (20, [15, 6], [30, -4001, -1, 0, 0, -2, 0, 0]), (24, [0, 2], [])], [(15, 11, 0, 0)], [(14, 10, 1, 1), (14, 6, -4294967296, 1), (6, 10, -4294967296, 0), (10, 6, -4294967296, 0)])
theorem oo_Mo_styleTokens_49 {kA : Nat → ClassId} : or_ok kA GG o_Mo_styleTokens_49 := by
  intro A ta ws vs hD hth hl hk hds hf
  have hl : vs.length = 15 := hl
  have hk : ∀ q ∈ ([(0, (2, 0, 0, [150])), (2, (2, 0, 0, [150])), (6, (0, 0, 1999, [])), (10, (0, 0, 1999, [])), (11, (0, 0, 4001, [])), (12, (0, 3, 3, [])), (13, (0, 1, 1, [])), (14, (0, 1, 2000, []))] : List (Nat × tv_T)), tv_ok ta q.2 (n_v vs q.1) := hk
  obtain ⟨t0, hk⟩ := List.forall_mem_cons.mp hk
  have t0 : tv_ok ta (2, 0, 0, [150]) (n_v vs 0) := t0
  have r0 : ta (v_ad (n_v vs 0)) = some 150 := tv_rg t0
  obtain ⟨t2, hk⟩ := List.forall_mem_cons.mp hk
  have t2 : tv_ok ta (2, 0, 0, [150]) (n_v vs 2) := t2
  have r2 : ta (v_ad (n_v vs 2)) = some 150 := tv_rg t2
  obtain ⟨t6, hk⟩ := List.forall_mem_cons.mp hk
  have t6 : tv_ok ta (0, 0, 1999, []) (n_v vs 6) := t6
  have k6 : 0 ≤ v_iv (n_v vs 6) ∧ v_iv (n_v vs 6) ≤ 1999 := tv_rng t6
  obtain ⟨t10, hk⟩ := List.forall_mem_cons.mp hk
  have t10 : tv_ok ta (0, 0, 1999, []) (n_v vs 10) := t10
  have k10 : 0 ≤ v_iv (n_v vs 10) ∧ v_iv (n_v vs 10) ≤ 1999 := tv_rng t10
  obtain ⟨t11, hk⟩ := List.forall_mem_cons.mp hk
  have t11 : tv_ok ta (0, 0, 4001, []) (n_v vs 11) := t11
  have k11 : 0 ≤ v_iv (n_v vs 11) ∧ v_iv (n_v vs 11) ≤ 4001 := tv_rng t11
  obtain ⟨t12, hk⟩ := List.forall_mem_cons.mp hk
  have t12 : tv_ok ta (0, 3, 3, []) (n_v vs 12) := t12
  have k12 : 3 ≤ v_iv (n_v vs 12) ∧ v_iv (n_v vs 12) ≤ 3 := tv_rng t12
  obtain ⟨t13, hk⟩ := List.forall_mem_cons.mp hk
  have t13 : tv_ok ta (0, 1, 1, []) (n_v vs 13) := t13
  have k13 : 1 ≤ v_iv (n_v vs 13) ∧ v_iv (n_v vs 13) ≤ 1 := tv_rng t13
  obtain ⟨t14, hk⟩ := List.forall_mem_cons.mp hk
  have t14 : tv_ok ta (0, 1, 2000, []) (n_v vs 14) := t14
  have k14 : 1 ≤ v_iv (n_v vs 14) ∧ v_iv (n_v vs 14) ≤ 2000 := tv_rng t14
  have hds : ∀ q ∈ ([(14, 10, 1, 1), (14, 6, -4294967296, 1), (6, 10, -4294967296, 0), (10, 6, -4294967296, 0)] : List of_T), n_iv vs q.2.1 + q.2.2.1 ≤ n_iv vs q.1 ∧ n_iv vs q.1 ≤ n_iv vs q.2.1 + q.2.2.2 := hds
  obtain ⟨d0, hds⟩ := List.forall_mem_cons.mp hds
  have d0 : v_iv (n_v vs 10) + 1 ≤ v_iv (n_v vs 14) ∧ v_iv (n_v vs 14) ≤ v_iv (n_v vs 10) + 1 := d0
  obtain ⟨d1, hds⟩ := List.forall_mem_cons.mp hds
  have d1 : v_iv (n_v vs 6) + (-4294967296) ≤ v_iv (n_v vs 14) ∧ v_iv (n_v vs 14) ≤ v_iv (n_v vs 6) + 1 := d1
  obtain ⟨d2, hds⟩ := List.forall_mem_cons.mp hds
  have d2 : v_iv (n_v vs 10) + (-4294967296) ≤ v_iv (n_v vs 6) ∧ v_iv (n_v vs 6) ≤ v_iv (n_v vs 10) + 0 := d2
  obtain ⟨d3, hds⟩ := List.forall_mem_cons.mp hds
  have d3 : v_iv (n_v vs 6) + (-4294967296) ≤ v_iv (n_v vs 10) ∧ v_iv (n_v vs 10) ≤ v_iv (n_v vs 6) + 0 := d3
  have hf : fc_ok [(20, [11, 6], [30, -4001, -1, 0, 0, -2, 0, 0]), (24, [0, 2], []), (101, [2, 14], [11]), (1, [14, 10, 13], []), (9, [10, 2], [11]), (20, [2, 6], [50, 2, 0, 157, 11, 2, 7, 0, 3, 2, 0, 157, 1, 1, 1, 3, 2, 0, 11, 1, 1]), (20, [11, 6], [30, -4001, -1, 0, 0, -2, 0, 0])] ta ws vs := hf
  obtain ⟨f0, hf⟩ := fc_un (show (20 : Nat) < 100 from by decide) hf
  have f0 : (-1) * v_iv (n_v vs 11) + ((-2) * v_iv (n_v vs 6) + 0) ≤ (-4001) := f0
  obtain ⟨f1, hf⟩ := fc_un (show (24 : Nat) < 100 from by decide) hf
  have f1 : n_v vs 0 = n_v vs 2 := f1
  obtain ⟨ta1, w1, le1, ⟨_, s1⟩, hf⟩ := fc_us (show ¬ (101 : Nat) < 100 from by decide) hf
  have s1 : (∀ b j, w_el ws b j = w_el w1 b j) ∧ ∀ b j, w_fd ws b j = if b = v_ad (n_v vs 2) ∧ j = 11 then n_v vs 14 else w_fd w1 b j := s1
  obtain ⟨f3, hf⟩ := fc_un (show (1 : Nat) < 100 from by decide) hf
  have f3 : v_iv (n_v vs 14) = v_iv (n_v vs 10) + v_iv (n_v vs 13) := f3
  obtain ⟨f4, hf⟩ := fc_un (show (9 : Nat) < 100 from by decide) hf
  have f4 : n_v vs 10 = w_fd w1 (v_ad (n_v vs 2)) 11 := f4
  obtain ⟨f5, hf⟩ := fc_un (show (20 : Nat) < 100 from by decide) hf
  have f5 : (w_fi w1 (n_v vs 2) 157 ≤ v_iv (n_v vs 6)) ∧ (w_fi w1 (n_v vs 2) 11 = v_iv (n_v vs 6)) := f5
  obtain ⟨f6, hf⟩ := fc_un (show (20 : Nat) < 100 from by decide) hf
  have f6 : (-1) * v_iv (n_v vs 11) + ((-2) * v_iv (n_v vs 6) + 0) ≤ (-4001) := f6
  have q2 : n_v vs 2 = n_v vs 0 := f1.symm
  rw [q2] at s1
  rw [q2] at f4
  rw [q2] at f5
  have g4 : v_iv (n_v vs 10) = w_fi w1 (n_v vs 0) 11 := congrArg v_iv f4
  have fe_0_11_1 : w_fi ws (n_v vs 0) 11 = v_iv (n_v vs 14) := by show v_iv (w_fd _ _ _) = _; rw [s1.2, if_pos ⟨rfl, rfl⟩]
  have fe_0_157_1 : w_fi ws (n_v vs 0) 157 = w_fi w1 (n_v vs 0) 157 := by show v_iv (w_fd _ _ _) = v_iv (w_fd _ _ _); rw [s1.2, if_neg (fun e => absurd e.2 (by decide))]
  have kz_0_11 : 0 ≤ w_fi ws (n_v vs 0) 11 ∧ w_fi ws (n_v vs 0) 11 ≤ 2000 := tv_rng (th_fd hD hth r0 (g := GG_150) rfl (k := 11) (t := (0, 0, 2000, [])) rfl rfl)
  have kz_0_157 : 0 ≤ w_fi ws (n_v vs 0) 157 ∧ w_fi ws (n_v vs 0) 157 ≤ 2010 := tv_rng (th_fd hD hth r0 (g := GG_150) rfl (k := 157) (t := (0, 0, 2010, [])) rfl rfl)
  obtain ⟨x, ex, hx⟩ := iv_ex (ta := ta) (lo := 0) (hi := 4001) (z := 0 + (1 * v_iv (n_v vs 11) + 0)) (by omega) (by omega) (by omega) (by omega)
  have ex2 : v_iv (Value.int x) = 0 + (1 * v_iv (n_v vs 11) + 0) := ex
  have ex3 : 0 ≤ v_iv (Value.int x) ∧ v_iv (Value.int x) ≤ 4001 := tv_rng hx
  have e_0 : n_v (vs ++ [Value.int x]) 0 = n_v vs 0 := n_v_old (by rw [hl]; decide)
  have e_2 : n_v (vs ++ [Value.int x]) 2 = n_v vs 2 := n_v_old (by rw [hl]; decide)
  have e_6 : n_v (vs ++ [Value.int x]) 6 = n_v vs 6 := n_v_old (by rw [hl]; decide)
  have e_12 : n_v (vs ++ [Value.int x]) 12 = n_v vs 12 := n_v_old (by rw [hl]; decide)
  have e_15 : n_v (vs ++ [Value.int x]) 15 = Value.int x := n_v_new hl
  have nf0 : fc_1 (20, [2, 6, 12], [50, 2, 0, 157, 11, 2, 7, 0, 3, 2, 0, 157, 1, 1, 2, 7, 0, 2, 1, 1, 2, 0, 11, 3, 6, 1, 2, 1, 2, 0, 0, 3, 6, 1, 2, 1, 2, 0, 4, 0, 6, 4, 2, 1, 1, 0, 1, 2, 0, 11]) ws (vs ++ [Value.int x]) := by
    refine ⟨fun n hn => ?_, ?_⟩
    · have hn : n ∈ [2, 6, 12] := hn
      rw [List.length_append, hl]
      simp only [List.mem_cons, List.not_mem_nil, or_false] at hn
      show n < 15 + 1; omega
    · show (w_fi ws (n_v (vs ++ [Value.int x]) 2) 157 ≤ v_iv (n_v (vs ++ [Value.int x]) 6)) ∧ ((v_iv (n_v (vs ++ [Value.int x]) 6) ≤ w_fi ws (n_v (vs ++ [Value.int x]) 2) 11) ∧ ((v_iv (n_v (vs ++ [Value.int x]) 12) = 0) ∨ ((v_iv (n_v (vs ++ [Value.int x]) 12) = 4) ∨ ((v_iv (n_v (vs ++ [Value.int x]) 6) + 1) ≤ w_fi ws (n_v (vs ++ [Value.int x]) 2) 11))))
      rw [e_2]
      rw [e_6]
      rw [e_12]
      rw [q2]
      first | omega | grind
  have nf1 : fc_1 (20, [15, 6], [30, -4001, -1, 0, 0, -2, 0, 0]) ws (vs ++ [Value.int x]) := by
    refine ⟨fun n hn => ?_, ?_⟩
    · have hn : n ∈ [15, 6] := hn
      rw [List.length_append, hl]
      simp only [List.mem_cons, List.not_mem_nil, or_false] at hn
      show n < 15 + 1; omega
    · show (-1) * v_iv (n_v (vs ++ [Value.int x]) 15) + ((-2) * v_iv (n_v (vs ++ [Value.int x]) 6) + 0) ≤ (-4001)
      rw [e_6]
      rw [e_15]
      omega
  have nf2 : fc_1 (24, [0, 2], []) ws (vs ++ [Value.int x]) := by
    refine ⟨fun n hn => ?_, ?_⟩
    · have hn : n ∈ [0, 2] := hn
      rw [List.length_append, hl]
      simp only [List.mem_cons, List.not_mem_nil, or_false] at hn
      show n < 15 + 1; omega
    · show n_v (vs ++ [Value.int x]) 0 = n_v (vs ++ [Value.int x]) 2
      first | rfl | simp only [e_0, e_2, q2]
  obtain ⟨x0, e0, _, _⟩ := tv_int t11 rfl
  have e1 : v_iv (n_v vs 11) = x0.toInt := by rw [e0]; rfl
  have ho : sy_ofs (vs ++ [Value.int x]) (15, 11, 0, 0) := by
    refine ⟨x, x0, by rw [List.getElem?_append_right (by rw [hl]; decide), hl]; rfl, ?_, ?_, ?_⟩
    · rw [List.getElem?_append_left (by rw [hl]; decide)]; exact n_v_some (by rw [hl]; decide) e0
    · show x0.toInt + 0 ≤ x.toInt; omega
    · show x.toInt ≤ x0.toInt + 0; omega
  exact ⟨(fun _ h => (by cases h)), [Value.int x], ag_one hx, List.forall_mem_cons.mpr ⟨⟨show (20 : Nat) < 100 from by decide, nf0⟩, List.forall_mem_cons.mpr ⟨⟨show (20 : Nat) < 100 from by decide, nf1⟩, List.forall_mem_cons.mpr ⟨⟨show (24 : Nat) < 100 from by decide, nf2⟩, (fun _ h => (by cases h))⟩⟩⟩, List.forall_mem_cons.mpr ⟨ho, (fun _ h => (by cases h))⟩⟩
def o_Mo_styleTokens_50 : or_T := (373, 13, [(0, (2, 0, 0, [150])), (2, (2, 0, 0, [150])), (6, (0, 0, 2000, [])), (7, (0, 0, 4, [])), (10, (0, 0, 4001, [])), (12, (0, 0, 2010, []))], [(9, [12, 2], [157]), (20, [2, 6, 7], [50, 2, 0, 157, 11, 2, 7, 0, 3, 2, 0, 157, 1, 1, 2, 7, 0, 2, 1, 1, 2, 0, 11, 3, 6, 1, 2, 1, 2, 0, 0, 3, 6, 1, 2, 1, 2, 0, 4, 0, 6, 4, 2, 1, 1, 0, 1, 2, 0, 11]), (20, [10, 6], [30, -4001, -1, 0, 0, -2, 0, 0]), (24, [0, 2], [])], [(12, (0, 0, 2000, []))], [], [], [], [(7, 6, -4294967296, 4)])
theorem oo_Mo_styleTokens_50 {kA : Nat → ClassId} : or_ok kA GG o_Mo_styleTokens_50 := by
  intro A ta ws vs hD hth hl hk hds hf
  have hl : vs.length = 13 := hl
  have hk : ∀ q ∈ ([(0, (2, 0, 0, [150])), (2, (2, 0, 0, [150])), (6, (0, 0, 2000, [])), (7, (0, 0, 4, [])), (10, (0, 0, 4001, [])), (12, (0, 0, 2010, []))] : List (Nat × tv_T)), tv_ok ta q.2 (n_v vs q.1) := hk
  obtain ⟨t0, hk⟩ := List.forall_mem_cons.mp hk
  have t0 : tv_ok ta (2, 0, 0, [150]) (n_v vs 0) := t0
  have r0 : ta (v_ad (n_v vs 0)) = some 150 := tv_rg t0
  obtain ⟨t2, hk⟩ := List.forall_mem_cons.mp hk
  have t2 : tv_ok ta (2, 0, 0, [150]) (n_v vs 2) := t2
  have r2 : ta (v_ad (n_v vs 2)) = some 150 := tv_rg t2
  obtain ⟨t6, hk⟩ := List.forall_mem_cons.mp hk
  have t6 : tv_ok ta (0, 0, 2000, []) (n_v vs 6) := t6
  have k6 : 0 ≤ v_iv (n_v vs 6) ∧ v_iv (n_v vs 6) ≤ 2000 := tv_rng t6
  obtain ⟨t7, hk⟩ := List.forall_mem_cons.mp hk
  have t7 : tv_ok ta (0, 0, 4, []) (n_v vs 7) := t7
  have k7 : 0 ≤ v_iv (n_v vs 7) ∧ v_iv (n_v vs 7) ≤ 4 := tv_rng t7
  obtain ⟨t10, hk⟩ := List.forall_mem_cons.mp hk
  have t10 : tv_ok ta (0, 0, 4001, []) (n_v vs 10) := t10
  have k10 : 0 ≤ v_iv (n_v vs 10) ∧ v_iv (n_v vs 10) ≤ 4001 := tv_rng t10
  obtain ⟨t12, hk⟩ := List.forall_mem_cons.mp hk
  have t12 : tv_ok ta (0, 0, 2010, []) (n_v vs 12) := t12
  have k12 : 0 ≤ v_iv (n_v vs 12) ∧ v_iv (n_v vs 12) ≤ 2010 := tv_rng t12
  have hds : ∀ q ∈ ([(7, 6, -4294967296, 4)] : List of_T), n_iv vs q.2.1 + q.2.2.1 ≤ n_iv vs q.1 ∧ n_iv vs q.1 ≤ n_iv vs q.2.1 + q.2.2.2 := hds
  obtain ⟨d0, hds⟩ := List.forall_mem_cons.mp hds
  have d0 : v_iv (n_v vs 6) + (-4294967296) ≤ v_iv (n_v vs 7) ∧ v_iv (n_v vs 7) ≤ v_iv (n_v vs 6) + 4 := d0
  have hf : fc_ok [(9, [12, 2], [157]), (20, [2, 6, 7], [50, 2, 0, 157, 11, 2, 7, 0, 3, 2, 0, 157, 1, 1, 2, 7, 0, 2, 1, 1, 2, 0, 11, 3, 6, 1, 2, 1, 2, 0, 0, 3, 6, 1, 2, 1, 2, 0, 4, 0, 6, 4, 2, 1, 1, 0, 1, 2, 0, 11]), (20, [10, 6], [30, -4001, -1, 0, 0, -2, 0, 0]), (24, [0, 2], [])] ta ws vs := hf
  obtain ⟨f0, hf⟩ := fc_un (show (9 : Nat) < 100 from by decide) hf
  have f0 : n_v vs 12 = w_fd ws (v_ad (n_v vs 2)) 157 := f0
  obtain ⟨f1, hf⟩ := fc_un (show (20 : Nat) < 100 from by decide) hf
  have f1 : (w_fi ws (n_v vs 2) 157 ≤ v_iv (n_v vs 6)) ∧ ((v_iv (n_v vs 6) ≤ w_fi ws (n_v vs 2) 11) ∧ ((v_iv (n_v vs 7) = 0) ∨ ((v_iv (n_v vs 7) = 4) ∨ ((v_iv (n_v vs 6) + 1) ≤ w_fi ws (n_v vs 2) 11)))) := f1
  obtain ⟨f2, hf⟩ := fc_un (show (20 : Nat) < 100 from by decide) hf
  have f2 : (-1) * v_iv (n_v vs 10) + ((-2) * v_iv (n_v vs 6) + 0) ≤ (-4001) := f2
  obtain ⟨f3, hf⟩ := fc_un (show (24 : Nat) < 100 from by decide) hf
  have f3 : n_v vs 0 = n_v vs 2 := f3
  have q2 : n_v vs 2 = n_v vs 0 := f3.symm
  rw [q2] at f0
  rw [q2] at f1
  have g0 : v_iv (n_v vs 12) = w_fi ws (n_v vs 0) 157 := congrArg v_iv f0
  have kz_0_11 : 0 ≤ w_fi ws (n_v vs 0) 11 ∧ w_fi ws (n_v vs 0) 11 ≤ 2000 := tv_rng (th_fd hD hth r0 (g := GG_150) rfl (k := 11) (t := (0, 0, 2000, [])) rfl rfl)
  have kz_0_157 : 0 ≤ w_fi ws (n_v vs 0) 157 ∧ w_fi ws (n_v vs 0) 157 ≤ 2010 := tv_rng (th_fd hD hth r0 (g := GG_150) rfl (k := 157) (t := (0, 0, 2010, [])) rfl rfl)
  have rf12 : tv_ok ta (0, 0, 2000, []) (n_v vs 12) := tv_in t12 (by first | omega | grind) (by first | omega | grind)
  refine ⟨List.forall_mem_cons.mpr ⟨rf12, (fun _ h => (by cases h))⟩, [], trivial, ?_, (fun _ h => (by cases h))⟩
  rw [List.append_nil]
  exact (fun _ h => (by cases h))
def o_Mo_styleTokens_51 : or_T := (17, 19, [(0, (2, 0, 0, [150])), (2, (2, 0, 0, [150])), (6, (0, 0, 2000, [])), (7, (0, 0, 0, [])), (9, (0, 0, 2000, [])), (10, (0, 0, 4001, [])), (11, (2, 0, 0, [259])), (12, (0, 0, 2000, [])), (13, (2, 0, 0, [260])), (14, (2, 0, 0, [261])), (15, (2, 0, 0, [262])), (16, (0, 1, 1, [])), (17, (0, 1, 2001, [])), (18, (0, 0, 0, []))], [(8, [7], [0]), (20, [10, 6], [30, -4001, -1, 0, 0, -2, 0, 0]), (24, [0, 2], []), (101, [2, 17], [157]), (1, [17, 12, 16], []), (9, [12, 2], [157]), (20, [2, 6, 7], [50, 2, 0, 157, 11, 2, 7, 0, 3, 2, 0, 157, 1, 1, 2, 7, 0, 2, 1, 1, 2, 0, 11, 3, 6, 1, 2, 1, 2, 0, 0, 3, 6, 1, 2, 1, 2, 0, 4, 0, 6, 4, 2, 1, 1, 0, 1, 2, 0, 11]), (20, [10, 6], [30, -4001, -1, 0, 0, -2, 0, 0]), (100, [15, 12, 9], []), (9, [9, 2], [11]), (9, [15, 2], [163]), (20, [2, 6, 7], [50, 2, 0, 157, 11, 2, 7, 0, 3, 2, 0, 157, 1, 1, 2, 7, 0, 2, 1, 1, 2, 0, 11, 3, 6, 1, 2, 1, 2, 0, 0, 3, 6, 1, 2, 1, 2, 0, 4, 0, 6, 4, 2, 1, 1, 0, 1, 2, 0, 11]), (20, [10, 6], [30, -4001, -1, 0, 0, -2, 0, 0]), (100, [14, 12, 6], []), (9, [14, 2], [162]), (20, [2, 6, 7], [50, 2, 0, 157, 11, 2, 7, 0, 3, 2, 0, 157, 1, 1, 2, 7, 0, 2, 1, 1, 2, 0, 11, 3, 6, 1, 2, 1, 2, 0, 0, 3, 6, 1, 2, 1, 2, 0, 4, 0, 6, 4, 2, 1, 1, 0, 1, 2, 0, 11]), (20, [10, 6], [30, -4001, -1, 0, 0, -2, 0, 0]), (100, [13, 12, 8], []), (9, [13, 2], [161]), (20, [2, 6, 7], [50, 2, 0, 157, 11, 2, 7, 0, 3, 2, 0, 157, 1, 1, 2, 7, 0, 2, 1, 1, 2, 0, 11, 3, 6, 1, 2, 1, 2, 0, 0, 3, 6, 1, 2, 1, 2, 0, 4, 0, 6, 4, 2, 1, 1, 0, 1, 2, 0, 11]), (20, [10, 6], [30, -4001, -1, 0, 0, -2, 0, 0]), (100, [11, 12, 7], []), (9, [11, 2], [160]), (20, [2, 6, 7], [50, 2, 0, 157, 11, 2, 7, 0, 3, 2, 0, 157, 1, 1, 2, 7, 0, 2, 1, 1, 2, 0, 11, 3, 6, 1, 2, 1, 2, 0, 0, 3, 6, 1, 2, 1, 2, 0, 4, 0, 6, 4, 2, 1, 1, 0, 1, 2, 0, 11]), (20, [10, 6], [30, -4001, -1, 0, 0, -2, 0, 0])], [], [(0, 0, 4001, [])], [(20, [2, 18], [50, 2, 1, 157, 11, 160, 2, 16, 0, 7, 4, 3, 2, 0, 157, 1, 1, 4, 3, 2, 0, 11, 0, 1, 3, 6, 1, 2, 1, 1, 0, 1, 2, 7, 0, 2, 0, 1, 2, 0, 157, 3, 14, 1, 10, 3, 0, 160, 5, 3, 2, 0, 157, 0, 1, 0, 0, 1, 10, 3, 0, 160, 5, 3, 2, 0, 157, 0, 1, 0, 4]), (24, [0, 2], []), (20, [19, 2, 18], [30, 4000, 1, 0, 0, 2, 1, 11, -1, 0, 0]), (20, [19, 2, 18], [30, -4000, -1, 0, 0, -2, 1, 11, 1, 0, 0])], [(19, 10, -1000000000000, -1)], [(17, 12, 1, 1), (6, 9, -4294967296, 4294967295), (7, 6, -4294967296, 4)])
theorem oo_Mo_styleTokens_51 {kA : Nat → ClassId} : or_ok kA GG o_Mo_styleTokens_51 := by
  intro A ta ws vs hD hth hl hk hds hf
  have hl : vs.length = 19 := hl
  have hk : ∀ q ∈ ([(0, (2, 0, 0, [150])), (2, (2, 0, 0, [150])), (6, (0, 0, 2000, [])), (7, (0, 0, 0, [])), (9, (0, 0, 2000, [])), (10, (0, 0, 4001, [])), (11, (2, 0, 0, [259])), (12, (0, 0, 2000, [])), (13, (2, 0, 0, [260])), (14, (2, 0, 0, [261])), (15, (2, 0, 0, [262])), (16, (0, 1, 1, [])), (17, (0, 1, 2001, [])), (18, (0, 0, 0, []))] : List (Nat × tv_T)), tv_ok ta q.2 (n_v vs q.1) := hk
  obtain ⟨t0, hk⟩ := List.forall_mem_cons.mp hk
  have t0 : tv_ok ta (2, 0, 0, [150]) (n_v vs 0) := t0
  have r0 : ta (v_ad (n_v vs 0)) = some 150 := tv_rg t0
  obtain ⟨t2, hk⟩ := List.forall_mem_cons.mp hk
  have t2 : tv_ok ta (2, 0, 0, [150]) (n_v vs 2) := t2
  have r2 : ta (v_ad (n_v vs 2)) = some 150 := tv_rg t2
  obtain ⟨t6, hk⟩ := List.forall_mem_cons.mp hk
  have t6 : tv_ok ta (0, 0, 2000, []) (n_v vs 6) := t6
  have k6 : 0 ≤ v_iv (n_v vs 6) ∧ v_iv (n_v vs 6) ≤ 2000 := tv_rng t6
  obtain ⟨t7, hk⟩ := List.forall_mem_cons.mp hk
  have t7 : tv_ok ta (0, 0, 0, []) (n_v vs 7) := t7
  have k7 : 0 ≤ v_iv (n_v vs 7) ∧ v_iv (n_v vs 7) ≤ 0 := tv_rng t7
  obtain ⟨t9, hk⟩ := List.forall_mem_cons.mp hk
  have t9 : tv_ok ta (0, 0, 2000, []) (n_v vs 9) := t9
  have k9 : 0 ≤ v_iv (n_v vs 9) ∧ v_iv (n_v vs 9) ≤ 2000 := tv_rng t9
  obtain ⟨t10, hk⟩ := List.forall_mem_cons.mp hk
  have t10 : tv_ok ta (0, 0, 4001, []) (n_v vs 10) := t10
  have k10 : 0 ≤ v_iv (n_v vs 10) ∧ v_iv (n_v vs 10) ≤ 4001 := tv_rng t10
  obtain ⟨t11, hk⟩ := List.forall_mem_cons.mp hk
  have t11 : tv_ok ta (2, 0, 0, [259]) (n_v vs 11) := t11
  have r11 : ta (v_ad (n_v vs 11)) = some 259 := tv_rg t11
  obtain ⟨t12, hk⟩ := List.forall_mem_cons.mp hk
  have t12 : tv_ok ta (0, 0, 2000, []) (n_v vs 12) := t12
  have k12 : 0 ≤ v_iv (n_v vs 12) ∧ v_iv (n_v vs 12) ≤ 2000 := tv_rng t12
  obtain ⟨t13, hk⟩ := List.forall_mem_cons.mp hk
  have t13 : tv_ok ta (2, 0, 0, [260]) (n_v vs 13) := t13
  have r13 : ta (v_ad (n_v vs 13)) = some 260 := tv_rg t13
  obtain ⟨t14, hk⟩ := List.forall_mem_cons.mp hk
  have t14 : tv_ok ta (2, 0, 0, [261]) (n_v vs 14) := t14
  have r14 : ta (v_ad (n_v vs 14)) = some 261 := tv_rg t14
  obtain ⟨t15, hk⟩ := List.forall_mem_cons.mp hk
  have t15 : tv_ok ta (2, 0, 0, [262]) (n_v vs 15) := t15
  have r15 : ta (v_ad (n_v vs 15)) = some 262 := tv_rg t15
  obtain ⟨t16, hk⟩ := List.forall_mem_cons.mp hk
  have t16 : tv_ok ta (0, 1, 1, []) (n_v vs 16) := t16
  have k16 : 1 ≤ v_iv (n_v vs 16) ∧ v_iv (n_v vs 16) ≤ 1 := tv_rng t16
  obtain ⟨t17, hk⟩ := List.forall_mem_cons.mp hk
  have t17 : tv_ok ta (0, 1, 2001, []) (n_v vs 17) := t17
  have k17 : 1 ≤ v_iv (n_v vs 17) ∧ v_iv (n_v vs 17) ≤ 2001 := tv_rng t17
  obtain ⟨t18, hk⟩ := List.forall_mem_cons.mp hk
  have t18 : tv_ok ta (0, 0, 0, []) (n_v vs 18) := t18
  have k18 : 0 ≤ v_iv (n_v vs 18) ∧ v_iv (n_v vs 18) ≤ 0 := tv_rng t18
  have hds : ∀ q ∈ ([(17, 12, 1, 1), (6, 9, -4294967296, 4294967295), (7, 6, -4294967296, 4)] : List of_T), n_iv vs q.2.1 + q.2.2.1 ≤ n_iv vs q.1 ∧ n_iv vs q.1 ≤ n_iv vs q.2.1 + q.2.2.2 := hds
  obtain ⟨d0, hds⟩ := List.forall_mem_cons.mp hds
  have d0 : v_iv (n_v vs 12) + 1 ≤ v_iv (n_v vs 17) ∧ v_iv (n_v vs 17) ≤ v_iv (n_v vs 12) + 1 := d0
  obtain ⟨d1, hds⟩ := List.forall_mem_cons.mp hds
  have d1 : v_iv (n_v vs 9) + (-4294967296) ≤ v_iv (n_v vs 6) ∧ v_iv (n_v vs 6) ≤ v_iv (n_v vs 9) + 4294967295 := d1
  obtain ⟨d2, hds⟩ := List.forall_mem_cons.mp hds
  have d2 : v_iv (n_v vs 6) + (-4294967296) ≤ v_iv (n_v vs 7) ∧ v_iv (n_v vs 7) ≤ v_iv (n_v vs 6) + 4 := d2
  have hf : fc_ok [(8, [7], [0]), (20, [10, 6], [30, -4001, -1, 0, 0, -2, 0, 0]), (24, [0, 2], []), (101, [2, 17], [157]), (1, [17, 12, 16], []), (9, [12, 2], [157]), (20, [2, 6, 7], [50, 2, 0, 157, 11, 2, 7, 0, 3, 2, 0, 157, 1, 1, 2, 7, 0, 2, 1, 1, 2, 0, 11, 3, 6, 1, 2, 1, 2, 0, 0, 3, 6, 1, 2, 1, 2, 0, 4, 0, 6, 4, 2, 1, 1, 0, 1, 2, 0, 11]), (20, [10, 6], [30, -4001, -1, 0, 0, -2, 0, 0]), (100, [15, 12, 9], []), (9, [9, 2], [11]), (9, [15, 2], [163]), (20, [2, 6, 7], [50, 2, 0, 157, 11, 2, 7, 0, 3, 2, 0, 157, 1, 1, 2, 7, 0, 2, 1, 1, 2, 0, 11, 3, 6, 1, 2, 1, 2, 0, 0, 3, 6, 1, 2, 1, 2, 0, 4, 0, 6, 4, 2, 1, 1, 0, 1, 2, 0, 11]), (20, [10, 6], [30, -4001, -1, 0, 0, -2, 0, 0]), (100, [14, 12, 6], []), (9, [14, 2], [162]), (20, [2, 6, 7], [50, 2, 0, 157, 11, 2, 7, 0, 3, 2, 0, 157, 1, 1, 2, 7, 0, 2, 1, 1, 2, 0, 11, 3, 6, 1, 2, 1, 2, 0, 0, 3, 6, 1, 2, 1, 2, 0, 4, 0, 6, 4, 2, 1, 1, 0, 1, 2, 0, 11]), (20, [10, 6], [30, -4001, -1, 0, 0, -2, 0, 0]), (100, [13, 12, 8], []), (9, [13, 2], [161]), (20, [2, 6, 7], [50, 2, 0, 157, 11, 2, 7, 0, 3, 2, 0, 157, 1, 1, 2, 7, 0, 2, 1, 1, 2, 0, 11, 3, 6, 1, 2, 1, 2, 0, 0, 3, 6, 1, 2, 1, 2, 0, 4, 0, 6, 4, 2, 1, 1, 0, 1, 2, 0, 11]), (20, [10, 6], [30, -4001, -1, 0, 0, -2, 0, 0]), (100, [11, 12, 7], []), (9, [11, 2], [160]), (20, [2, 6, 7], [50, 2, 0, 157, 11, 2, 7, 0, 3, 2, 0, 157, 1, 1, 2, 7, 0, 2, 1, 1, 2, 0, 11, 3, 6, 1, 2, 1, 2, 0, 0, 3, 6, 1, 2, 1, 2, 0, 4, 0, 6, 4, 2, 1, 1, 0, 1, 2, 0, 11]), (20, [10, 6], [30, -4001, -1, 0, 0, -2, 0, 0])] ta ws vs := hf
  obtain ⟨f0, hf⟩ := fc_un (show (8 : Nat) < 100 from by decide) hf
  have f0 : v_iv (n_v vs 7) = 0 := f0
  obtain ⟨f1, hf⟩ := fc_un (show (20 : Nat) < 100 from by decide) hf
  have f1 : (-1) * v_iv (n_v vs 10) + ((-2) * v_iv (n_v vs 6) + 0) ≤ (-4001) := f1
  obtain ⟨f2, hf⟩ := fc_un (show (24 : Nat) < 100 from by decide) hf
  have f2 : n_v vs 0 = n_v vs 2 := f2
  obtain ⟨ta1, w1, le1, ⟨_, s1⟩, hf⟩ := fc_us (show ¬ (101 : Nat) < 100 from by decide) hf
  have s1 : (∀ b j, w_el ws b j = w_el w1 b j) ∧ ∀ b j, w_fd ws b j = if b = v_ad (n_v vs 2) ∧ j = 157 then n_v vs 17 else w_fd w1 b j := s1
  obtain ⟨f4, hf⟩ := fc_un (show (1 : Nat) < 100 from by decide) hf
  have f4 : v_iv (n_v vs 17) = v_iv (n_v vs 12) + v_iv (n_v vs 16) := f4
  obtain ⟨f5, hf⟩ := fc_un (show (9 : Nat) < 100 from by decide) hf
  have f5 : n_v vs 12 = w_fd w1 (v_ad (n_v vs 2)) 157 := f5
  obtain ⟨f6, hf⟩ := fc_un (show (20 : Nat) < 100 from by decide) hf
  have f6 : (w_fi w1 (n_v vs 2) 157 ≤ v_iv (n_v vs 6)) ∧ ((v_iv (n_v vs 6) ≤ w_fi w1 (n_v vs 2) 11) ∧ ((v_iv (n_v vs 7) = 0) ∨ ((v_iv (n_v vs 7) = 4) ∨ ((v_iv (n_v vs 6) + 1) ≤ w_fi w1 (n_v vs 2) 11)))) := f6
  obtain ⟨f7, hf⟩ := fc_un (show (20 : Nat) < 100 from by decide) hf
  have f7 : (-1) * v_iv (n_v vs 10) + ((-2) * v_iv (n_v vs 6) + 0) ≤ (-4001) := f7
  obtain ⟨ta2, w2, le2, ⟨_, s2⟩, hf⟩ := fc_us (show ¬ (100 : Nat) < 100 from by decide) hf
  have s2 : (∀ b j, w_el w1 b j = if b = v_ad (n_v vs 15) ∧ j = (v_iv (n_v vs 12)).toNat then v_iv (n_v vs 9) else w_el w2 b j) ∧ ∀ b k, w_fd w1 b k = w_fd w2 b k := s2
  obtain ⟨f9, hf⟩ := fc_un (show (9 : Nat) < 100 from by decide) hf
  have f9 : n_v vs 9 = w_fd w2 (v_ad (n_v vs 2)) 11 := f9
  obtain ⟨f10, hf⟩ := fc_un (show (9 : Nat) < 100 from by decide) hf
  have f10 : n_v vs 15 = w_fd w2 (v_ad (n_v vs 2)) 163 := f10
  obtain ⟨f11, hf⟩ := fc_un (show (20 : Nat) < 100 from by decide) hf
  have f11 : (w_fi w2 (n_v vs 2) 157 ≤ v_iv (n_v vs 6)) ∧ ((v_iv (n_v vs 6) ≤ w_fi w2 (n_v vs 2) 11) ∧ ((v_iv (n_v vs 7) = 0) ∨ ((v_iv (n_v vs 7) = 4) ∨ ((v_iv (n_v vs 6) + 1) ≤ w_fi w2 (n_v vs 2) 11)))) := f11
  obtain ⟨f12, hf⟩ := fc_un (show (20 : Nat) < 100 from by decide) hf
  have f12 : (-1) * v_iv (n_v vs 10) + ((-2) * v_iv (n_v vs 6) + 0) ≤ (-4001) := f12
  obtain ⟨ta3, w3, le3, ⟨_, s3⟩, hf⟩ := fc_us (show ¬ (100 : Nat) < 100 from by decide) hf
  have s3 : (∀ b j, w_el w2 b j = if b = v_ad (n_v vs 14) ∧ j = (v_iv (n_v vs 12)).toNat then v_iv (n_v vs 6) else w_el w3 b j) ∧ ∀ b k, w_fd w2 b k = w_fd w3 b k := s3
  obtain ⟨f14, hf⟩ := fc_un (show (9 : Nat) < 100 from by decide) hf
  have f14 : n_v vs 14 = w_fd w3 (v_ad (n_v vs 2)) 162 := f14
  obtain ⟨f15, hf⟩ := fc_un (show (20 : Nat) < 100 from by decide) hf
  have f15 : (w_fi w3 (n_v vs 2) 157 ≤ v_iv (n_v vs 6)) ∧ ((v_iv (n_v vs 6) ≤ w_fi w3 (n_v vs 2) 11) ∧ ((v_iv (n_v vs 7) = 0) ∨ ((v_iv (n_v vs 7) = 4) ∨ ((v_iv (n_v vs 6) + 1) ≤ w_fi w3 (n_v vs 2) 11)))) := f15
  obtain ⟨f16, hf⟩ := fc_un (show (20 : Nat) < 100 from by decide) hf
  have f16 : (-1) * v_iv (n_v vs 10) + ((-2) * v_iv (n_v vs 6) + 0) ≤ (-4001) := f16
  obtain ⟨ta4, w4, le4, ⟨_, s4⟩, hf⟩ := fc_us (show ¬ (100 : Nat) < 100 from by decide) hf
  have s4 : (∀ b j, w_el w3 b j = if b = v_ad (n_v vs 13) ∧ j = (v_iv (n_v vs 12)).toNat then v_iv (n_v vs 8) else w_el w4 b j) ∧ ∀ b k, w_fd w3 b k = w_fd w4 b k := s4
  obtain ⟨f18, hf⟩ := fc_un (show (9 : Nat) < 100 from by decide) hf
  have f18 : n_v vs 13 = w_fd w4 (v_ad (n_v vs 2)) 161 := f18
  obtain ⟨f19, hf⟩ := fc_un (show (20 : Nat) < 100 from by decide) hf
  have f19 : (w_fi w4 (n_v vs 2) 157 ≤ v_iv (n_v vs 6)) ∧ ((v_iv (n_v vs 6) ≤ w_fi w4 (n_v vs 2) 11) ∧ ((v_iv (n_v vs 7) = 0) ∨ ((v_iv (n_v vs 7) = 4) ∨ ((v_iv (n_v vs 6) + 1) ≤ w_fi w4 (n_v vs 2) 11)))) := f19
  obtain ⟨f20, hf⟩ := fc_un (show (20 : Nat) < 100 from by decide) hf
  have f20 : (-1) * v_iv (n_v vs 10) + ((-2) * v_iv (n_v vs 6) + 0) ≤ (-4001) := f20
  obtain ⟨ta5, w5, le5, ⟨_, s5⟩, hf⟩ := fc_us (show ¬ (100 : Nat) < 100 from by decide) hf
  have s5 : (∀ b j, w_el w4 b j = if b = v_ad (n_v vs 11) ∧ j = (v_iv (n_v vs 12)).toNat then v_iv (n_v vs 7) else w_el w5 b j) ∧ ∀ b k, w_fd w4 b k = w_fd w5 b k := s5
  obtain ⟨f22, hf⟩ := fc_un (show (9 : Nat) < 100 from by decide) hf
  have f22 : n_v vs 11 = w_fd w5 (v_ad (n_v vs 2)) 160 := f22
  obtain ⟨f23, hf⟩ := fc_un (show (20 : Nat) < 100 from by decide) hf
  have f23 : (w_fi w5 (n_v vs 2) 157 ≤ v_iv (n_v vs 6)) ∧ ((v_iv (n_v vs 6) ≤ w_fi w5 (n_v vs 2) 11) ∧ ((v_iv (n_v vs 7) = 0) ∨ ((v_iv (n_v vs 7) = 4) ∨ ((v_iv (n_v vs 6) + 1) ≤ w_fi w5 (n_v vs 2) 11)))) := f23
  obtain ⟨f24, hf⟩ := fc_un (show (20 : Nat) < 100 from by decide) hf
  have f24 : (-1) * v_iv (n_v vs 10) + ((-2) * v_iv (n_v vs 6) + 0) ≤ (-4001) := f24
  have q2 : n_v vs 2 = n_v vs 0 := f2.symm
  rw [q2] at s1
  rw [q2] at f5
  rw [q2] at f6
  rw [q2] at f9
  rw [q2] at f10
  rw [q2] at f11
  rw [q2] at f14
  rw [q2] at f15
  rw [q2] at f18
  rw [q2] at f19
  rw [q2] at f22
  rw [q2] at f23
  have ar_0_160_1 : w_ar w1 (n_v vs 0) 160 = w_ar ws (n_v vs 0) 160 := by show v_ad (w_fd w1 _ _) = v_ad (w_fd ws _ _); rw [s1.2, if_neg (fun e => absurd e.2 (by decide))]
  have ar_0_160_2 : w_ar w2 (n_v vs 0) 160 = w_ar ws (n_v vs 0) 160 := by rw [← ar_0_160_1]; show v_ad (w_fd w2 _ _) = v_ad (w_fd w1 _ _); rw [s2.2]
  have ar_0_160_3 : w_ar w3 (n_v vs 0) 160 = w_ar ws (n_v vs 0) 160 := by rw [← ar_0_160_2]; show v_ad (w_fd w3 _ _) = v_ad (w_fd w2 _ _); rw [s3.2]
  have ar_0_160_4 : w_ar w4 (n_v vs 0) 160 = w_ar ws (n_v vs 0) 160 := by rw [← ar_0_160_3]; show v_ad (w_fd w4 _ _) = v_ad (w_fd w3 _ _); rw [s4.2]
  have ar_0_160_5 : w_ar w5 (n_v vs 0) 160 = w_ar ws (n_v vs 0) 160 := by rw [← ar_0_160_4]; show v_ad (w_fd w5 _ _) = v_ad (w_fd w4 _ _); rw [s5.2]
  have cr_0_160 : ta (w_ar ws (n_v vs 0) 160) = some 259 := tv_rg (th_fd hD hth r0 (g := GG_150) rfl (k := 160) (t := (2, 0, 0, [259])) rfl rfl)
  have ar_0_161_1 : w_ar w1 (n_v vs 0) 161 = w_ar ws (n_v vs 0) 161 := by show v_ad (w_fd w1 _ _) = v_ad (w_fd ws _ _); rw [s1.2, if_neg (fun e => absurd e.2 (by decide))]
  have ar_0_161_2 : w_ar w2 (n_v vs 0) 161 = w_ar ws (n_v vs 0) 161 := by rw [← ar_0_161_1]; show v_ad (w_fd w2 _ _) = v_ad (w_fd w1 _ _); rw [s2.2]
  have ar_0_161_3 : w_ar w3 (n_v vs 0) 161 = w_ar ws (n_v vs 0) 161 := by rw [← ar_0_161_2]; show v_ad (w_fd w3 _ _) = v_ad (w_fd w2 _ _); rw [s3.2]
  have ar_0_161_4 : w_ar w4 (n_v vs 0) 161 = w_ar ws (n_v vs 0) 161 := by rw [← ar_0_161_3]; show v_ad (w_fd w4 _ _) = v_ad (w_fd w3 _ _); rw [s4.2]
  have ar_0_161_5 : w_ar w5 (n_v vs 0) 161 = w_ar ws (n_v vs 0) 161 := by rw [← ar_0_161_4]; show v_ad (w_fd w5 _ _) = v_ad (w_fd w4 _ _); rw [s5.2]
  have cr_0_161 : ta (w_ar ws (n_v vs 0) 161) = some 260 := tv_rg (th_fd hD hth r0 (g := GG_150) rfl (k := 161) (t := (2, 0, 0, [260])) rfl rfl)
  have ar_0_162_1 : w_ar w1 (n_v vs 0) 162 = w_ar ws (n_v vs 0) 162 := by show v_ad (w_fd w1 _ _) = v_ad (w_fd ws _ _); rw [s1.2, if_neg (fun e => absurd e.2 (by decide))]
  have ar_0_162_2 : w_ar w2 (n_v vs 0) 162 = w_ar ws (n_v vs 0) 162 := by rw [← ar_0_162_1]; show v_ad (w_fd w2 _ _) = v_ad (w_fd w1 _ _); rw [s2.2]
  have ar_0_162_3 : w_ar w3 (n_v vs 0) 162 = w_ar ws (n_v vs 0) 162 := by rw [← ar_0_162_2]; show v_ad (w_fd w3 _ _) = v_ad (w_fd w2 _ _); rw [s3.2]
  have ar_0_162_4 : w_ar w4 (n_v vs 0) 162 = w_ar ws (n_v vs 0) 162 := by rw [← ar_0_162_3]; show v_ad (w_fd w4 _ _) = v_ad (w_fd w3 _ _); rw [s4.2]
  have ar_0_162_5 : w_ar w5 (n_v vs 0) 162 = w_ar ws (n_v vs 0) 162 := by rw [← ar_0_162_4]; show v_ad (w_fd w5 _ _) = v_ad (w_fd w4 _ _); rw [s5.2]
  have cr_0_162 : ta (w_ar ws (n_v vs 0) 162) = some 261 := tv_rg (th_fd hD hth r0 (g := GG_150) rfl (k := 162) (t := (2, 0, 0, [261])) rfl rfl)
  have ar_0_163_1 : w_ar w1 (n_v vs 0) 163 = w_ar ws (n_v vs 0) 163 := by show v_ad (w_fd w1 _ _) = v_ad (w_fd ws _ _); rw [s1.2, if_neg (fun e => absurd e.2 (by decide))]
  have ar_0_163_2 : w_ar w2 (n_v vs 0) 163 = w_ar ws (n_v vs 0) 163 := by rw [← ar_0_163_1]; show v_ad (w_fd w2 _ _) = v_ad (w_fd w1 _ _); rw [s2.2]
  have ar_0_163_3 : w_ar w3 (n_v vs 0) 163 = w_ar ws (n_v vs 0) 163 := by rw [← ar_0_163_2]; show v_ad (w_fd w3 _ _) = v_ad (w_fd w2 _ _); rw [s3.2]
  have ar_0_163_4 : w_ar w4 (n_v vs 0) 163 = w_ar ws (n_v vs 0) 163 := by rw [← ar_0_163_3]; show v_ad (w_fd w4 _ _) = v_ad (w_fd w3 _ _); rw [s4.2]
  have ar_0_163_5 : w_ar w5 (n_v vs 0) 163 = w_ar ws (n_v vs 0) 163 := by rw [← ar_0_163_4]; show v_ad (w_fd w5 _ _) = v_ad (w_fd w4 _ _); rw [s5.2]
  have cr_0_163 : ta (w_ar ws (n_v vs 0) 163) = some 262 := tv_rg (th_fd hD hth r0 (g := GG_150) rfl (k := 163) (t := (2, 0, 0, [262])) rfl rfl)
  have ad_15 : v_ad (n_v vs 15) = w_ar ws (n_v vs 0) 163 := (congrArg v_ad f10).trans ar_0_163_2
  have ad_14 : v_ad (n_v vs 14) = w_ar ws (n_v vs 0) 162 := (congrArg v_ad f14).trans ar_0_162_3
  have ad_13 : v_ad (n_v vs 13) = w_ar ws (n_v vs 0) 161 := (congrArg v_ad f18).trans ar_0_161_4
  have ad_11 : v_ad (n_v vs 11) = w_ar ws (n_v vs 0) 160 := (congrArg v_ad f22).trans ar_0_160_5
  have g5 : v_iv (n_v vs 12) = w_fi w1 (n_v vs 0) 157 := congrArg v_iv f5
  have g9 : v_iv (n_v vs 9) = w_fi w2 (n_v vs 0) 11 := congrArg v_iv f9
  have fe_0_11_1 : w_fi ws (n_v vs 0) 11 = w_fi w1 (n_v vs 0) 11 := by show v_iv (w_fd _ _ _) = v_iv (w_fd _ _ _); rw [s1.2, if_neg (fun e => absurd e.2 (by decide))]
  have fe_0_157_1 : w_fi ws (n_v vs 0) 157 = v_iv (n_v vs 17) := by show v_iv (w_fd _ _ _) = _; rw [s1.2, if_pos ⟨rfl, rfl⟩]
  have fe_0_11_2 : w_fi w1 (n_v vs 0) 11 = w_fi w2 (n_v vs 0) 11 := congrArg v_iv (s2.2 _ _)
  have fe_0_157_2 : w_fi w1 (n_v vs 0) 157 = w_fi w2 (n_v vs 0) 157 := congrArg v_iv (s2.2 _ _)
  have fe_0_11_3 : w_fi w2 (n_v vs 0) 11 = w_fi w3 (n_v vs 0) 11 := congrArg v_iv (s3.2 _ _)
  have fe_0_157_3 : w_fi w2 (n_v vs 0) 157 = w_fi w3 (n_v vs 0) 157 := congrArg v_iv (s3.2 _ _)
  have fe_0_11_4 : w_fi w3 (n_v vs 0) 11 = w_fi w4 (n_v vs 0) 11 := congrArg v_iv (s4.2 _ _)
  have fe_0_157_4 : w_fi w3 (n_v vs 0) 157 = w_fi w4 (n_v vs 0) 157 := congrArg v_iv (s4.2 _ _)
  have fe_0_11_5 : w_fi w4 (n_v vs 0) 11 = w_fi w5 (n_v vs 0) 11 := congrArg v_iv (s5.2 _ _)
  have fe_0_157_5 : w_fi w4 (n_v vs 0) 157 = w_fi w5 (n_v vs 0) 157 := congrArg v_iv (s5.2 _ _)
  have hE_0_160_1 : ∀ j : Int, w_ei ws (w_ar ws (n_v vs 0) 160) j = w_ei w1 (w_ar ws (n_v vs 0) 160) j := fun j => s1.1 _ _
  have hE_0_160_2 : ∀ j : Int, w_ei w1 (w_ar ws (n_v vs 0) 160) j = w_ei w2 (w_ar ws (n_v vs 0) 160) j := fun j => by unfold w_ei; rw [s2.1, if_neg (fun e => by have e1 := e.1; rw [← e1] at r15; rw [cr_0_160] at r15; exact absurd (Option.some.inj r15) (by decide))]
  have hE_0_160_3 : ∀ j : Int, w_ei w2 (w_ar ws (n_v vs 0) 160) j = w_ei w3 (w_ar ws (n_v vs 0) 160) j := fun j => by unfold w_ei; rw [s3.1, if_neg (fun e => by have e1 := e.1; rw [← e1] at r14; rw [cr_0_160] at r14; exact absurd (Option.some.inj r14) (by decide))]
  have hE_0_160_4 : ∀ j : Int, w_ei w3 (w_ar ws (n_v vs 0) 160) j = w_ei w4 (w_ar ws (n_v vs 0) 160) j := fun j => by unfold w_ei; rw [s4.1, if_neg (fun e => by have e1 := e.1; rw [← e1] at r13; rw [cr_0_160] at r13; exact absurd (Option.some.inj r13) (by decide))]
  have hE_0_160_5 : ∀ j : Int, 0 ≤ j → (j = v_iv (n_v vs 12) → w_ei w4 (w_ar ws (n_v vs 0) 160) j = v_iv (n_v vs 7)) ∧ (j ≠ v_iv (n_v vs 12) → w_ei w4 (w_ar ws (n_v vs 0) 160) j = w_ei w5 (w_ar ws (n_v vs 0) 160) j) := fun j hj => ⟨fun h => by unfold w_ei; rw [s5.1, if_pos ⟨ad_11.symm, by rw [h]⟩], fun h => by unfold w_ei; rw [s5.1, if_neg (fun e => h (by have := e.2; omega))]⟩
  have hK_0_160 : ∀ j : Int, 0 ≤ j → j < 2010 → 0 ≤ w_ei ws (w_ar ws (n_v vs 0) 160) j ∧ w_ei ws (w_ar ws (n_v vs 0) 160) j ≤ 4 := fun j h0 h1 => th_el hD hth cr_0_160 (kd := 0) (n := 2010) (m := 2010) (lo := 0) (hi := 4) (rs := []) (L := []) rfl (by decide) (j := j.toNat) (by omega)
  have kz_0_11 : 0 ≤ w_fi ws (n_v vs 0) 11 ∧ w_fi ws (n_v vs 0) 11 ≤ 2000 := tv_rng (th_fd hD hth r0 (g := GG_150) rfl (k := 11) (t := (0, 0, 2000, [])) rfl rfl)
  have kz_0_157 : 0 ≤ w_fi ws (n_v vs 0) 157 ∧ w_fi ws (n_v vs 0) 157 ≤ 2010 := tv_rng (th_fd hD hth r0 (g := GG_150) rfl (k := 157) (t := (0, 0, 2010, [])) rfl rfl)
  have kb_0_11 : 0 ≤ w_fi ws (n_v vs 0) 11 ∧ w_fi ws (n_v vs 0) 11 ≤ 2000 := tv_rng (th_fd hD hth r0 (g := GG_150) rfl (k := 11) (t := (0, 0, 2000, [])) rfl rfl)
  obtain ⟨x, ex, hx⟩ := iv_ex (ta := ta) (lo := 0) (hi := 4001) (z := 4000 + ((-2) * w_fi ws (n_v vs 0) 11 + (1 * v_iv (n_v vs 18) + 0))) (by omega) (by omega) (by omega) (by omega)
  have ex2 : v_iv (Value.int x) = 4000 + ((-2) * w_fi ws (n_v vs 0) 11 + (1 * v_iv (n_v vs 18) + 0)) := ex
  have ex3 : 0 ≤ v_iv (Value.int x) ∧ v_iv (Value.int x) ≤ 4001 := tv_rng hx
  have e_0 : n_v (vs ++ [Value.int x]) 0 = n_v vs 0 := n_v_old (by rw [hl]; decide)
  have e_2 : n_v (vs ++ [Value.int x]) 2 = n_v vs 2 := n_v_old (by rw [hl]; decide)
  have e_18 : n_v (vs ++ [Value.int x]) 18 = n_v vs 18 := n_v_old (by rw [hl]; decide)
  have e_19 : n_v (vs ++ [Value.int x]) 19 = Value.int x := n_v_new hl
  have nf0 : fc_1 (20, [2, 18], [50, 2, 1, 157, 11, 160, 2, 16, 0, 7, 4, 3, 2, 0, 157, 1, 1, 4, 3, 2, 0, 11, 0, 1, 3, 6, 1, 2, 1, 1, 0, 1, 2, 7, 0, 2, 0, 1, 2, 0, 157, 3, 14, 1, 10, 3, 0, 160, 5, 3, 2, 0, 157, 0, 1, 0, 0, 1, 10, 3, 0, 160, 5, 3, 2, 0, 157, 0, 1, 0, 4]) ws (vs ++ [Value.int x]) := by
    refine ⟨fun n hn => ?_, ?_⟩
    · have hn : n ∈ [2, 18] := hn
      rw [List.length_append, hl]
      simp only [List.mem_cons, List.not_mem_nil, or_false] at hn
      show n < 19 + 1; omega
    · show ((w_fi ws (n_v (vs ++ [Value.int x]) 2) 157 + v_iv (n_v (vs ++ [Value.int x]) 18)) ≤ (w_fi ws (n_v (vs ++ [Value.int x]) 2) 11 + 1)) ∧ ((v_iv (n_v (vs ++ [Value.int x]) 18) = 1) ∨ ((1 ≤ w_fi ws (n_v (vs ++ [Value.int x]) 2) 157) ∧ ((w_ei ws (w_ar ws (n_v (vs ++ [Value.int x]) 2) 160) ((w_fi ws (n_v (vs ++ [Value.int x]) 2) 157 - 1)) = 0) ∨ (w_ei ws (w_ar ws (n_v (vs ++ [Value.int x]) 2) 160) ((w_fi ws (n_v (vs ++ [Value.int x]) 2) 157 - 1)) = 4))))
      rw [e_2]
      rw [e_18]
      rw [q2]
      first | omega | grind
  have nf1 : fc_1 (24, [0, 2], []) ws (vs ++ [Value.int x]) := by
    refine ⟨fun n hn => ?_, ?_⟩
    · have hn : n ∈ [0, 2] := hn
      rw [List.length_append, hl]
      simp only [List.mem_cons, List.not_mem_nil, or_false] at hn
      show n < 19 + 1; omega
    · show n_v (vs ++ [Value.int x]) 0 = n_v (vs ++ [Value.int x]) 2
      first | rfl | simp only [e_0, e_2, q2]
  have nf2 : fc_1 (20, [19, 2, 18], [30, 4000, 1, 0, 0, 2, 1, 11, -1, 0, 0]) ws (vs ++ [Value.int x]) := by
    refine ⟨fun n hn => ?_, ?_⟩
    · have hn : n ∈ [19, 2, 18] := hn
      rw [List.length_append, hl]
      simp only [List.mem_cons, List.not_mem_nil, or_false] at hn
      show n < 19 + 1; omega
    · show 1 * v_iv (n_v (vs ++ [Value.int x]) 19) + (2 * w_fi ws (n_v (vs ++ [Value.int x]) 2) 11 + ((-1) * v_iv (n_v (vs ++ [Value.int x]) 18) + 0)) ≤ 4000
      rw [e_2]
      rw [e_18]
      rw [e_19]
      rw [q2]
      omega
  have nf3 : fc_1 (20, [19, 2, 18], [30, -4000, -1, 0, 0, -2, 1, 11, 1, 0, 0]) ws (vs ++ [Value.int x]) := by
    refine ⟨fun n hn => ?_, ?_⟩
    · have hn : n ∈ [19, 2, 18] := hn
      rw [List.length_append, hl]
      simp only [List.mem_cons, List.not_mem_nil, or_false] at hn
      show n < 19 + 1; omega
    · show (-1) * v_iv (n_v (vs ++ [Value.int x]) 19) + ((-2) * w_fi ws (n_v (vs ++ [Value.int x]) 2) 11 + (1 * v_iv (n_v (vs ++ [Value.int x]) 18) + 0)) ≤ (-4000)
      rw [e_2]
      rw [e_18]
      rw [e_19]
      rw [q2]
      omega
  obtain ⟨x0, e0, _, _⟩ := tv_int t10 rfl
  have e1 : v_iv (n_v vs 10) = x0.toInt := by rw [e0]; rfl
  have ho : sy_ofs (vs ++ [Value.int x]) (19, 10, -1000000000000, -1) := by
    refine ⟨x, x0, by rw [List.getElem?_append_right (by rw [hl]; decide), hl]; rfl, ?_, ?_, ?_⟩
    · rw [List.getElem?_append_left (by rw [hl]; decide)]; exact n_v_some (by rw [hl]; decide) e0
    · show x0.toInt + (-1000000000000) ≤ x.toInt; omega
    · show x.toInt ≤ x0.toInt + (-1); omega
  exact ⟨(fun _ h => (by cases h)), [Value.int x], ag_one hx, List.forall_mem_cons.mpr ⟨⟨show (20 : Nat) < 100 from by decide, nf0⟩, List.forall_mem_cons.mpr ⟨⟨show (24 : Nat) < 100 from by decide, nf1⟩, List.forall_mem_cons.mpr ⟨⟨show (20 : Nat) < 100 from by decide, nf2⟩, List.forall_mem_cons.mpr ⟨⟨show (20 : Nat) < 100 from by decide, nf3⟩, (fun _ h => (by cases h))⟩⟩⟩⟩, List.forall_mem_cons.mpr ⟨ho, (fun _ h => (by cases h))⟩⟩
def o_Mo_styleTokens_52 : or_T := (17, 20, [(0, (2, 0, 0, [150])), (2, (2, 0, 0, [150])), (6, (0, 0, 2000, [])), (7, (0, 4, 4, [])), (9, (0, 0, 2000, [])), (10, (0, 0, 4001, [])), (11, (2, 0, 0, [259])), (12, (0, 0, 2000, [])), (13, (2, 0, 0, [260])), (14, (2, 0, 0, [261])), (15, (2, 0, 0, [262])), (16, (0, 1, 1, [])), (17, (0, 1, 2001, [])), (18, (0, 4, 4, [])), (19, (0, 0, 0, []))], [(7, [7, 18], [0]), (8, [7], [1]), (20, [10, 6], [30, -4001, -1, 0, 0, -2, 0, 0]), (24, [0, 2], []), (101, [2, 17], [157]), (1, [17, 12, 16], []), (9, [12, 2], [157]), (20, [2, 6, 7], [50, 2, 0, 157, 11, 2, 7, 0, 3, 2, 0, 157, 1, 1, 2, 7, 0, 2, 1, 1, 2, 0, 11, 3, 6, 1, 2, 1, 2, 0, 0, 3, 6, 1, 2, 1, 2, 0, 4, 0, 6, 4, 2, 1, 1, 0, 1, 2, 0, 11]), (20, [10, 6], [30, -4001, -1, 0, 0, -2, 0, 0]), (100, [15, 12, 9], []), (9, [9, 2], [11]), (9, [15, 2], [163]), (20, [2, 6, 7], [50, 2, 0, 157, 11, 2, 7, 0, 3, 2, 0, 157, 1, 1, 2, 7, 0, 2, 1, 1, 2, 0, 11, 3, 6, 1, 2, 1, 2, 0, 0, 3, 6, 1, 2, 1, 2, 0, 4, 0, 6, 4, 2, 1, 1, 0, 1, 2, 0, 11]), (20, [10, 6], [30, -4001, -1, 0, 0, -2, 0, 0]), (100, [14, 12, 6], []), (9, [14, 2], [162]), (20, [2, 6, 7], [50, 2, 0, 157, 11, 2, 7, 0, 3, 2, 0, 157, 1, 1, 2, 7, 0, 2, 1, 1, 2, 0, 11, 3, 6, 1, 2, 1, 2, 0, 0, 3, 6, 1, 2, 1, 2, 0, 4, 0, 6, 4, 2, 1, 1, 0, 1, 2, 0, 11]), (20, [10, 6], [30, -4001, -1, 0, 0, -2, 0, 0]), (100, [13, 12, 8], []), (9, [13, 2], [161]), (20, [2, 6, 7], [50, 2, 0, 157, 11, 2, 7, 0, 3, 2, 0, 157, 1, 1, 2, 7, 0, 2, 1, 1, 2, 0, 11, 3, 6, 1, 2, 1, 2, 0, 0, 3, 6, 1, 2, 1, 2, 0, 4, 0, 6, 4, 2, 1, 1, 0, 1, 2, 0, 11]), (20, [10, 6], [30, -4001, -1, 0, 0, -2, 0, 0]), (100, [11, 12, 7], []), (9, [11, 2], [160]), (20, [2, 6, 7], [50, 2, 0, 157, 11, 2, 7, 0, 3, 2, 0, 157, 1, 1, 2, 7, 0, 2, 1, 1, 2, 0, 11, 3, 6, 1, 2, 1, 2, 0, 0, 3, 6, 1, 2, 1, 2, 0, 4, 0, 6, 4, 2, 1, 1, 0, 1, 2, 0, 11]), (20, [10, 6], [30, -4001, -1, 0, 0, -2, 0, 0])], [], [(0, 0, 4001, [])], [(20, [2, 19], [50, 2, 1, 157, 11, 160, 2, 16, 0, 7, 4, 3, 2, 0, 157, 1, 1, 4, 3, 2, 0, 11, 0, 1, 3, 6, 1, 2, 1, 1, 0, 1, 2, 7, 0, 2, 0, 1, 2, 0, 157, 3, 14, 1, 10, 3, 0, 160, 5, 3, 2, 0, 157, 0, 1, 0, 0, 1, 10, 3, 0, 160, 5, 3, 2, 0, 157, 0, 1, 0, 4]), (24, [0, 2], []), (20, [20, 2, 19], [30, 4000, 1, 0, 0, 2, 1, 11, -1, 0, 0]), (20, [20, 2, 19], [30, -4000, -1, 0, 0, -2, 1, 11, 1, 0, 0])], [(20, 10, -1000000000000, -1)], [(17, 12, 1, 1), (6, 9, -4294967296, 4294967295), (7, 6, -4294967296, 4)])
theorem oo_Mo_styleTokens_52 {kA : Nat → ClassId} : or_ok kA GG o_Mo_styleTokens_52 := by
  intro A ta ws vs hD hth hl hk hds hf
  have hl : vs.length = 20 := hl
  have hk : ∀ q ∈ ([(0, (2, 0, 0, [150])), (2, (2, 0, 0, [150])), (6, (0, 0, 2000, [])), (7, (0, 4, 4, [])), (9, (0, 0, 2000, [])), (10, (0, 0, 4001, [])), (11, (2, 0, 0, [259])), (12, (0, 0, 2000, [])), (13, (2, 0, 0, [260])), (14, (2, 0, 0, [261])), (15, (2, 0, 0, [262])), (16, (0, 1, 1, [])), (17, (0, 1, 2001, [])), (18, (0, 4, 4, [])), (19, (0, 0, 0, []))] : List (Nat × tv_T)), tv_ok ta q.2 (n_v vs q.1) := hk
  obtain ⟨t0, hk⟩ := List.forall_mem_cons.mp hk
  have t0 : tv_ok ta (2, 0, 0, [150]) (n_v vs 0) := t0
  have r0 : ta (v_ad (n_v vs 0)) = some 150 := tv_rg t0
  obtain ⟨t2, hk⟩ := List.forall_mem_cons.mp hk
  have t2 : tv_ok ta (2, 0, 0, [150]) (n_v vs 2) := t2
  have r2 : ta (v_ad (n_v vs 2)) = some 150 := tv_rg t2
  obtain ⟨t6, hk⟩ := List.forall_mem_cons.mp hk
  have t6 : tv_ok ta (0, 0, 2000, []) (n_v vs 6) := t6
  have k6 : 0 ≤ v_iv (n_v vs 6) ∧ v_iv (n_v vs 6) ≤ 2000 := tv_rng t6
  obtain ⟨t7, hk⟩ := List.forall_mem_cons.mp hk
  have t7 : tv_ok ta (0, 4, 4, []) (n_v vs 7) := t7
  have k7 : 4 ≤ v_iv (n_v vs 7) ∧ v_iv (n_v vs 7) ≤ 4 := tv_rng t7
  obtain ⟨t9, hk⟩ := List.forall_mem_cons.mp hk
  have t9 : tv_ok ta (0, 0, 2000, []) (n_v vs 9) := t9
  have k9 : 0 ≤ v_iv (n_v vs 9) ∧ v_iv (n_v vs 9) ≤ 2000 := tv_rng t9
  obtain ⟨t10, hk⟩ := List.forall_mem_cons.mp hk
  have t10 : tv_ok ta (0, 0, 4001, []) (n_v vs 10) := t10
  have k10 : 0 ≤ v_iv (n_v vs 10) ∧ v_iv (n_v vs 10) ≤ 4001 := tv_rng t10
  obtain ⟨t11, hk⟩ := List.forall_mem_cons.mp hk
  have t11 : tv_ok ta (2, 0, 0, [259]) (n_v vs 11) := t11
  have r11 : ta (v_ad (n_v vs 11)) = some 259 := tv_rg t11
  obtain ⟨t12, hk⟩ := List.forall_mem_cons.mp hk
  have t12 : tv_ok ta (0, 0, 2000, []) (n_v vs 12) := t12
  have k12 : 0 ≤ v_iv (n_v vs 12) ∧ v_iv (n_v vs 12) ≤ 2000 := tv_rng t12
  obtain ⟨t13, hk⟩ := List.forall_mem_cons.mp hk
  have t13 : tv_ok ta (2, 0, 0, [260]) (n_v vs 13) := t13
  have r13 : ta (v_ad (n_v vs 13)) = some 260 := tv_rg t13
  obtain ⟨t14, hk⟩ := List.forall_mem_cons.mp hk
  have t14 : tv_ok ta (2, 0, 0, [261]) (n_v vs 14) := t14
  have r14 : ta (v_ad (n_v vs 14)) = some 261 := tv_rg t14
  obtain ⟨t15, hk⟩ := List.forall_mem_cons.mp hk
  have t15 : tv_ok ta (2, 0, 0, [262]) (n_v vs 15) := t15
  have r15 : ta (v_ad (n_v vs 15)) = some 262 := tv_rg t15
  obtain ⟨t16, hk⟩ := List.forall_mem_cons.mp hk
  have t16 : tv_ok ta (0, 1, 1, []) (n_v vs 16) := t16
  have k16 : 1 ≤ v_iv (n_v vs 16) ∧ v_iv (n_v vs 16) ≤ 1 := tv_rng t16
  obtain ⟨t17, hk⟩ := List.forall_mem_cons.mp hk
  have t17 : tv_ok ta (0, 1, 2001, []) (n_v vs 17) := t17
  have k17 : 1 ≤ v_iv (n_v vs 17) ∧ v_iv (n_v vs 17) ≤ 2001 := tv_rng t17
  obtain ⟨t18, hk⟩ := List.forall_mem_cons.mp hk
  have t18 : tv_ok ta (0, 4, 4, []) (n_v vs 18) := t18
  have k18 : 4 ≤ v_iv (n_v vs 18) ∧ v_iv (n_v vs 18) ≤ 4 := tv_rng t18
  obtain ⟨t19, hk⟩ := List.forall_mem_cons.mp hk
  have t19 : tv_ok ta (0, 0, 0, []) (n_v vs 19) := t19
  have k19 : 0 ≤ v_iv (n_v vs 19) ∧ v_iv (n_v vs 19) ≤ 0 := tv_rng t19
  have hds : ∀ q ∈ ([(17, 12, 1, 1), (6, 9, -4294967296, 4294967295), (7, 6, -4294967296, 4)] : List of_T), n_iv vs q.2.1 + q.2.2.1 ≤ n_iv vs q.1 ∧ n_iv vs q.1 ≤ n_iv vs q.2.1 + q.2.2.2 := hds
  obtain ⟨d0, hds⟩ := List.forall_mem_cons.mp hds
  have d0 : v_iv (n_v vs 12) + 1 ≤ v_iv (n_v vs 17) ∧ v_iv (n_v vs 17) ≤ v_iv (n_v vs 12) + 1 := d0
  obtain ⟨d1, hds⟩ := List.forall_mem_cons.mp hds
  have d1 : v_iv (n_v vs 9) + (-4294967296) ≤ v_iv (n_v vs 6) ∧ v_iv (n_v vs 6) ≤ v_iv (n_v vs 9) + 4294967295 := d1
  obtain ⟨d2, hds⟩ := List.forall_mem_cons.mp hds
  have d2 : v_iv (n_v vs 6) + (-4294967296) ≤ v_iv (n_v vs 7) ∧ v_iv (n_v vs 7) ≤ v_iv (n_v vs 6) + 4 := d2
  have hf : fc_ok [(7, [7, 18], [0]), (8, [7], [1]), (20, [10, 6], [30, -4001, -1, 0, 0, -2, 0, 0]), (24, [0, 2], []), (101, [2, 17], [157]), (1, [17, 12, 16], []), (9, [12, 2], [157]), (20, [2, 6, 7], [50, 2, 0, 157, 11, 2, 7, 0, 3, 2, 0, 157, 1, 1, 2, 7, 0, 2, 1, 1, 2, 0, 11, 3, 6, 1, 2, 1, 2, 0, 0, 3, 6, 1, 2, 1, 2, 0, 4, 0, 6, 4, 2, 1, 1, 0, 1, 2, 0, 11]), (20, [10, 6], [30, -4001, -1, 0, 0, -2, 0, 0]), (100, [15, 12, 9], []), (9, [9, 2], [11]), (9, [15, 2], [163]), (20, [2, 6, 7], [50, 2, 0, 157, 11, 2, 7, 0, 3, 2, 0, 157, 1, 1, 2, 7, 0, 2, 1, 1, 2, 0, 11, 3, 6, 1, 2, 1, 2, 0, 0, 3, 6, 1, 2, 1, 2, 0, 4, 0, 6, 4, 2, 1, 1, 0, 1, 2, 0, 11]), (20, [10, 6], [30, -4001, -1, 0, 0, -2, 0, 0]), (100, [14, 12, 6], []), (9, [14, 2], [162]), (20, [2, 6, 7], [50, 2, 0, 157, 11, 2, 7, 0, 3, 2, 0, 157, 1, 1, 2, 7, 0, 2, 1, 1, 2, 0, 11, 3, 6, 1, 2, 1, 2, 0, 0, 3, 6, 1, 2, 1, 2, 0, 4, 0, 6, 4, 2, 1, 1, 0, 1, 2, 0, 11]), (20, [10, 6], [30, -4001, -1, 0, 0, -2, 0, 0]), (100, [13, 12, 8], []), (9, [13, 2], [161]), (20, [2, 6, 7], [50, 2, 0, 157, 11, 2, 7, 0, 3, 2, 0, 157, 1, 1, 2, 7, 0, 2, 1, 1, 2, 0, 11, 3, 6, 1, 2, 1, 2, 0, 0, 3, 6, 1, 2, 1, 2, 0, 4, 0, 6, 4, 2, 1, 1, 0, 1, 2, 0, 11]), (20, [10, 6], [30, -4001, -1, 0, 0, -2, 0, 0]), (100, [11, 12, 7], []), (9, [11, 2], [160]), (20, [2, 6, 7], [50, 2, 0, 157, 11, 2, 7, 0, 3, 2, 0, 157, 1, 1, 2, 7, 0, 2, 1, 1, 2, 0, 11, 3, 6, 1, 2, 1, 2, 0, 0, 3, 6, 1, 2, 1, 2, 0, 4, 0, 6, 4, 2, 1, 1, 0, 1, 2, 0, 11]), (20, [10, 6], [30, -4001, -1, 0, 0, -2, 0, 0])] ta ws vs := hf
  obtain ⟨f0, hf⟩ := fc_un (show (7 : Nat) < 100 from by decide) hf
  have f0 : v_iv (n_v vs 7) = v_iv (n_v vs 18) := f0
  obtain ⟨f1, hf⟩ := fc_un (show (8 : Nat) < 100 from by decide) hf
  have f1 : v_iv (n_v vs 7) ≠ 0 := f1
  obtain ⟨f2, hf⟩ := fc_un (show (20 : Nat) < 100 from by decide) hf
  have f2 : (-1) * v_iv (n_v vs 10) + ((-2) * v_iv (n_v vs 6) + 0) ≤ (-4001) := f2
  obtain ⟨f3, hf⟩ := fc_un (show (24 : Nat) < 100 from by decide) hf
  have f3 : n_v vs 0 = n_v vs 2 := f3
  obtain ⟨ta1, w1, le1, ⟨_, s1⟩, hf⟩ := fc_us (show ¬ (101 : Nat) < 100 from by decide) hf
  have s1 : (∀ b j, w_el ws b j = w_el w1 b j) ∧ ∀ b j, w_fd ws b j = if b = v_ad (n_v vs 2) ∧ j = 157 then n_v vs 17 else w_fd w1 b j := s1
  obtain ⟨f5, hf⟩ := fc_un (show (1 : Nat) < 100 from by decide) hf
  have f5 : v_iv (n_v vs 17) = v_iv (n_v vs 12) + v_iv (n_v vs 16) := f5
  obtain ⟨f6, hf⟩ := fc_un (show (9 : Nat) < 100 from by decide) hf
  have f6 : n_v vs 12 = w_fd w1 (v_ad (n_v vs 2)) 157 := f6
  obtain ⟨f7, hf⟩ := fc_un (show (20 : Nat) < 100 from by decide) hf
  have f7 : (w_fi w1 (n_v vs 2) 157 ≤ v_iv (n_v vs 6)) ∧ ((v_iv (n_v vs 6) ≤ w_fi w1 (n_v vs 2) 11) ∧ ((v_iv (n_v vs 7) = 0) ∨ ((v_iv (n_v vs 7) = 4) ∨ ((v_iv (n_v vs 6) + 1) ≤ w_fi w1 (n_v vs 2) 11)))) := f7
  obtain ⟨f8, hf⟩ := fc_un (show (20 : Nat) < 100 from by decide) hf
  have f8 : (-1) * v_iv (n_v vs 10) + ((-2) * v_iv (n_v vs 6) + 0) ≤ (-4001) := f8
  obtain ⟨ta2, w2, le2, ⟨_, s2⟩, hf⟩ := fc_us (show ¬ (100 : Nat) < 100 from by decide) hf
  have s2 : (∀ b j, w_el w1 b j = if b = v_ad (n_v vs 15) ∧ j = (v_iv (n_v vs 12)).toNat then v_iv (n_v vs 9) else w_el w2 b j) ∧ ∀ b k, w_fd w1 b k = w_fd w2 b k := s2
  obtain ⟨f10, hf⟩ := fc_un (show (9 : Nat) < 100 from by decide) hf
  have f10 : n_v vs 9 = w_fd w2 (v_ad (n_v vs 2)) 11 := f10
  obtain ⟨f11, hf⟩ := fc_un (show (9 : Nat) < 100 from by decide) hf
  have f11 : n_v vs 15 = w_fd w2 (v_ad (n_v vs 2)) 163 := f11
  obtain ⟨f12, hf⟩ := fc_un (show (20 : Nat) < 100 from by decide) hf
  have f12 : (w_fi w2 (n_v vs 2) 157 ≤ v_iv (n_v vs 6)) ∧ ((v_iv (n_v vs 6) ≤ w_fi w2 (n_v vs 2) 11) ∧ ((v_iv (n_v vs 7) = 0) ∨ ((v_iv (n_v vs 7) = 4) ∨ ((v_iv (n_v vs 6) + 1) ≤ w_fi w2 (n_v vs 2) 11)))) := f12
  obtain ⟨f13, hf⟩ := fc_un (show (20 : Nat) < 100 from by decide) hf
  have f13 : (-1) * v_iv (n_v vs 10) + ((-2) * v_iv (n_v vs 6) + 0) ≤ (-4001) := f13
  obtain ⟨ta3, w3, le3, ⟨_, s3⟩, hf⟩ := fc_us (show ¬ (100 : Nat) < 100 from by decide) hf
  have s3 : (∀ b j, w_el w2 b j = if b = v_ad (n_v vs 14) ∧ j = (v_iv (n_v vs 12)).toNat then v_iv (n_v vs 6) else w_el w3 b j) ∧ ∀ b k, w_fd w2 b k = w_fd w3 b k := s3
  obtain ⟨f15, hf⟩ := fc_un (show (9 : Nat) < 100 from by decide) hf
  have f15 : n_v vs 14 = w_fd w3 (v_ad (n_v vs 2)) 162 := f15
  obtain ⟨f16, hf⟩ := fc_un (show (20 : Nat) < 100 from by decide) hf
  have f16 : (w_fi w3 (n_v vs 2) 157 ≤ v_iv (n_v vs 6)) ∧ ((v_iv (n_v vs 6) ≤ w_fi w3 (n_v vs 2) 11) ∧ ((v_iv (n_v vs 7) = 0) ∨ ((v_iv (n_v vs 7) = 4) ∨ ((v_iv (n_v vs 6) + 1) ≤ w_fi w3 (n_v vs 2) 11)))) := f16
  obtain ⟨f17, hf⟩ := fc_un (show (20 : Nat) < 100 from by decide) hf
  have f17 : (-1) * v_iv (n_v vs 10) + ((-2) * v_iv (n_v vs 6) + 0) ≤ (-4001) := f17
  obtain ⟨ta4, w4, le4, ⟨_, s4⟩, hf⟩ := fc_us (show ¬ (100 : Nat) < 100 from by decide) hf
  have s4 : (∀ b j, w_el w3 b j = if b = v_ad (n_v vs 13) ∧ j = (v_iv (n_v vs 12)).toNat then v_iv (n_v vs 8) else w_el w4 b j) ∧ ∀ b k, w_fd w3 b k = w_fd w4 b k := s4
  obtain ⟨f19, hf⟩ := fc_un (show (9 : Nat) < 100 from by decide) hf
  have f19 : n_v vs 13 = w_fd w4 (v_ad (n_v vs 2)) 161 := f19
  obtain ⟨f20, hf⟩ := fc_un (show (20 : Nat) < 100 from by decide) hf
  have f20 : (w_fi w4 (n_v vs 2) 157 ≤ v_iv (n_v vs 6)) ∧ ((v_iv (n_v vs 6) ≤ w_fi w4 (n_v vs 2) 11) ∧ ((v_iv (n_v vs 7) = 0) ∨ ((v_iv (n_v vs 7) = 4) ∨ ((v_iv (n_v vs 6) + 1) ≤ w_fi w4 (n_v vs 2) 11)))) := f20
  obtain ⟨f21, hf⟩ := fc_un (show (20 : Nat) < 100 from by decide) hf
  have f21 : (-1) * v_iv (n_v vs 10) + ((-2) * v_iv (n_v vs 6) + 0) ≤ (-4001) := f21
  obtain ⟨ta5, w5, le5, ⟨_, s5⟩, hf⟩ := fc_us (show ¬ (100 : Nat) < 100 from by decide) hf
  have s5 : (∀ b j, w_el w4 b j = if b = v_ad (n_v vs 11) ∧ j = (v_iv (n_v vs 12)).toNat then v_iv (n_v vs 7) else w_el w5 b j) ∧ ∀ b k, w_fd w4 b k = w_fd w5 b k := s5
  obtain ⟨f23, hf⟩ := fc_un (show (9 : Nat) < 100 from by decide) hf
  have f23 : n_v vs 11 = w_fd w5 (v_ad (n_v vs 2)) 160 := f23
  obtain ⟨f24, hf⟩ := fc_un (show (20 : Nat) < 100 from by decide) hf
  have f24 : (w_fi w5 (n_v vs 2) 157 ≤ v_iv (n_v vs 6)) ∧ ((v_iv (n_v vs 6) ≤ w_fi w5 (n_v vs 2) 11) ∧ ((v_iv (n_v vs 7) = 0) ∨ ((v_iv (n_v vs 7) = 4) ∨ ((v_iv (n_v vs 6) + 1) ≤ w_fi w5 (n_v vs 2) 11)))) := f24
  obtain ⟨f25, hf⟩ := fc_un (show (20 : Nat) < 100 from by decide) hf
  have f25 : (-1) * v_iv (n_v vs 10) + ((-2) * v_iv (n_v vs 6) + 0) ≤ (-4001) := f25
  have q2 : n_v vs 2 = n_v vs 0 := f3.symm
  rw [q2] at s1
  rw [q2] at f6
  rw [q2] at f7
  rw [q2] at f10
  rw [q2] at f11
  rw [q2] at f12
  rw [q2] at f15
  rw [q2] at f16
  rw [q2] at f19
  rw [q2] at f20
  rw [q2] at f23
  rw [q2] at f24
  have ar_0_160_1 : w_ar w1 (n_v vs 0) 160 = w_ar ws (n_v vs 0) 160 := by show v_ad (w_fd w1 _ _) = v_ad (w_fd ws _ _); rw [s1.2, if_neg (fun e => absurd e.2 (by decide))]
  have ar_0_160_2 : w_ar w2 (n_v vs 0) 160 = w_ar ws (n_v vs 0) 160 := by rw [← ar_0_160_1]; show v_ad (w_fd w2 _ _) = v_ad (w_fd w1 _ _); rw [s2.2]
  have ar_0_160_3 : w_ar w3 (n_v vs 0) 160 = w_ar ws (n_v vs 0) 160 := by rw [← ar_0_160_2]; show v_ad (w_fd w3 _ _) = v_ad (w_fd w2 _ _); rw [s3.2]
  have ar_0_160_4 : w_ar w4 (n_v vs 0) 160 = w_ar ws (n_v vs 0) 160 := by rw [← ar_0_160_3]; show v_ad (w_fd w4 _ _) = v_ad (w_fd w3 _ _); rw [s4.2]
  have ar_0_160_5 : w_ar w5 (n_v vs 0) 160 = w_ar ws (n_v vs 0) 160 := by rw [← ar_0_160_4]; show v_ad (w_fd w5 _ _) = v_ad (w_fd w4 _ _); rw [s5.2]
  have cr_0_160 : ta (w_ar ws (n_v vs 0) 160) = some 259 := tv_rg (th_fd hD hth r0 (g := GG_150) rfl (k := 160) (t := (2, 0, 0, [259])) rfl rfl)
  have ar_0_161_1 : w_ar w1 (n_v vs 0) 161 = w_ar ws (n_v vs 0) 161 := by show v_ad (w_fd w1 _ _) = v_ad (w_fd ws _ _); rw [s1.2, if_neg (fun e => absurd e.2 (by decide))]
  have ar_0_161_2 : w_ar w2 (n_v vs 0) 161 = w_ar ws (n_v vs 0) 161 := by rw [← ar_0_161_1]; show v_ad (w_fd w2 _ _) = v_ad (w_fd w1 _ _); rw [s2.2]
  have ar_0_161_3 : w_ar w3 (n_v vs 0) 161 = w_ar ws (n_v vs 0) 161 := by rw [← ar_0_161_2]; show v_ad (w_fd w3 _ _) = v_ad (w_fd w2 _ _); rw [s3.2]
  have ar_0_161_4 : w_ar w4 (n_v vs 0) 161 = w_ar ws (n_v vs 0) 161 := by rw [← ar_0_161_3]; show v_ad (w_fd w4 _ _) = v_ad (w_fd w3 _ _); rw [s4.2]
  have ar_0_161_5 : w_ar w5 (n_v vs 0) 161 = w_ar ws (n_v vs 0) 161 := by rw [← ar_0_161_4]; show v_ad (w_fd w5 _ _) = v_ad (w_fd w4 _ _); rw [s5.2]
  have cr_0_161 : ta (w_ar ws (n_v vs 0) 161) = some 260 := tv_rg (th_fd hD hth r0 (g := GG_150) rfl (k := 161) (t := (2, 0, 0, [260])) rfl rfl)
  have ar_0_162_1 : w_ar w1 (n_v vs 0) 162 = w_ar ws (n_v vs 0) 162 := by show v_ad (w_fd w1 _ _) = v_ad (w_fd ws _ _); rw [s1.2, if_neg (fun e => absurd e.2 (by decide))]
  have ar_0_162_2 : w_ar w2 (n_v vs 0) 162 = w_ar ws (n_v vs 0) 162 := by rw [← ar_0_162_1]; show v_ad (w_fd w2 _ _) = v_ad (w_fd w1 _ _); rw [s2.2]
  have ar_0_162_3 : w_ar w3 (n_v vs 0) 162 = w_ar ws (n_v vs 0) 162 := by rw [← ar_0_162_2]; show v_ad (w_fd w3 _ _) = v_ad (w_fd w2 _ _); rw [s3.2]
  have ar_0_162_4 : w_ar w4 (n_v vs 0) 162 = w_ar ws (n_v vs 0) 162 := by rw [← ar_0_162_3]; show v_ad (w_fd w4 _ _) = v_ad (w_fd w3 _ _); rw [s4.2]
  have ar_0_162_5 : w_ar w5 (n_v vs 0) 162 = w_ar ws (n_v vs 0) 162 := by rw [← ar_0_162_4]; show v_ad (w_fd w5 _ _) = v_ad (w_fd w4 _ _); rw [s5.2]
  have cr_0_162 : ta (w_ar ws (n_v vs 0) 162) = some 261 := tv_rg (th_fd hD hth r0 (g := GG_150) rfl (k := 162) (t := (2, 0, 0, [261])) rfl rfl)
  have ar_0_163_1 : w_ar w1 (n_v vs 0) 163 = w_ar ws (n_v vs 0) 163 := by show v_ad (w_fd w1 _ _) = v_ad (w_fd ws _ _); rw [s1.2, if_neg (fun e => absurd e.2 (by decide))]
  have ar_0_163_2 : w_ar w2 (n_v vs 0) 163 = w_ar ws (n_v vs 0) 163 := by rw [← ar_0_163_1]; show v_ad (w_fd w2 _ _) = v_ad (w_fd w1 _ _); rw [s2.2]
  have ar_0_163_3 : w_ar w3 (n_v vs 0) 163 = w_ar ws (n_v vs 0) 163 := by rw [← ar_0_163_2]; show v_ad (w_fd w3 _ _) = v_ad (w_fd w2 _ _); rw [s3.2]
  have ar_0_163_4 : w_ar w4 (n_v vs 0) 163 = w_ar ws (n_v vs 0) 163 := by rw [← ar_0_163_3]; show v_ad (w_fd w4 _ _) = v_ad (w_fd w3 _ _); rw [s4.2]
  have ar_0_163_5 : w_ar w5 (n_v vs 0) 163 = w_ar ws (n_v vs 0) 163 := by rw [← ar_0_163_4]; show v_ad (w_fd w5 _ _) = v_ad (w_fd w4 _ _); rw [s5.2]
  have cr_0_163 : ta (w_ar ws (n_v vs 0) 163) = some 262 := tv_rg (th_fd hD hth r0 (g := GG_150) rfl (k := 163) (t := (2, 0, 0, [262])) rfl rfl)
  have ad_15 : v_ad (n_v vs 15) = w_ar ws (n_v vs 0) 163 := (congrArg v_ad f11).trans ar_0_163_2
  have ad_14 : v_ad (n_v vs 14) = w_ar ws (n_v vs 0) 162 := (congrArg v_ad f15).trans ar_0_162_3
  have ad_13 : v_ad (n_v vs 13) = w_ar ws (n_v vs 0) 161 := (congrArg v_ad f19).trans ar_0_161_4
  have ad_11 : v_ad (n_v vs 11) = w_ar ws (n_v vs 0) 160 := (congrArg v_ad f23).trans ar_0_160_5
  have g6 : v_iv (n_v vs 12) = w_fi w1 (n_v vs 0) 157 := congrArg v_iv f6
  have g10 : v_iv (n_v vs 9) = w_fi w2 (n_v vs 0) 11 := congrArg v_iv f10
  have fe_0_11_1 : w_fi ws (n_v vs 0) 11 = w_fi w1 (n_v vs 0) 11 := by show v_iv (w_fd _ _ _) = v_iv (w_fd _ _ _); rw [s1.2, if_neg (fun e => absurd e.2 (by decide))]
  have fe_0_157_1 : w_fi ws (n_v vs 0) 157 = v_iv (n_v vs 17) := by show v_iv (w_fd _ _ _) = _; rw [s1.2, if_pos ⟨rfl, rfl⟩]
  have fe_0_11_2 : w_fi w1 (n_v vs 0) 11 = w_fi w2 (n_v vs 0) 11 := congrArg v_iv (s2.2 _ _)
  have fe_0_157_2 : w_fi w1 (n_v vs 0) 157 = w_fi w2 (n_v vs 0) 157 := congrArg v_iv (s2.2 _ _)
  have fe_0_11_3 : w_fi w2 (n_v vs 0) 11 = w_fi w3 (n_v vs 0) 11 := congrArg v_iv (s3.2 _ _)
  have fe_0_157_3 : w_fi w2 (n_v vs 0) 157 = w_fi w3 (n_v vs 0) 157 := congrArg v_iv (s3.2 _ _)
  have fe_0_11_4 : w_fi w3 (n_v vs 0) 11 = w_fi w4 (n_v vs 0) 11 := congrArg v_iv (s4.2 _ _)
  have fe_0_157_4 : w_fi w3 (n_v vs 0) 157 = w_fi w4 (n_v vs 0) 157 := congrArg v_iv (s4.2 _ _)
  have fe_0_11_5 : w_fi w4 (n_v vs 0) 11 = w_fi w5 (n_v vs 0) 11 := congrArg v_iv (s5.2 _ _)
  have fe_0_157_5 : w_fi w4 (n_v vs 0) 157 = w_fi w5 (n_v vs 0) 157 := congrArg v_iv (s5.2 _ _)
  have hE_0_160_1 : ∀ j : Int, w_ei ws (w_ar ws (n_v vs 0) 160) j = w_ei w1 (w_ar ws (n_v vs 0) 160) j := fun j => s1.1 _ _
  have hE_0_160_2 : ∀ j : Int, w_ei w1 (w_ar ws (n_v vs 0) 160) j = w_ei w2 (w_ar ws (n_v vs 0) 160) j := fun j => by unfold w_ei; rw [s2.1, if_neg (fun e => by have e1 := e.1; rw [← e1] at r15; rw [cr_0_160] at r15; exact absurd (Option.some.inj r15) (by decide))]
  have hE_0_160_3 : ∀ j : Int, w_ei w2 (w_ar ws (n_v vs 0) 160) j = w_ei w3 (w_ar ws (n_v vs 0) 160) j := fun j => by unfold w_ei; rw [s3.1, if_neg (fun e => by have e1 := e.1; rw [← e1] at r14; rw [cr_0_160] at r14; exact absurd (Option.some.inj r14) (by decide))]
  have hE_0_160_4 : ∀ j : Int, w_ei w3 (w_ar ws (n_v vs 0) 160) j = w_ei w4 (w_ar ws (n_v vs 0) 160) j := fun j => by unfold w_ei; rw [s4.1, if_neg (fun e => by have e1 := e.1; rw [← e1] at r13; rw [cr_0_160] at r13; exact absurd (Option.some.inj r13) (by decide))]
  have hE_0_160_5 : ∀ j : Int, 0 ≤ j → (j = v_iv (n_v vs 12) → w_ei w4 (w_ar ws (n_v vs 0) 160) j = v_iv (n_v vs 7)) ∧ (j ≠ v_iv (n_v vs 12) → w_ei w4 (w_ar ws (n_v vs 0) 160) j = w_ei w5 (w_ar ws (n_v vs 0) 160) j) := fun j hj => ⟨fun h => by unfold w_ei; rw [s5.1, if_pos ⟨ad_11.symm, by rw [h]⟩], fun h => by unfold w_ei; rw [s5.1, if_neg (fun e => h (by have := e.2; omega))]⟩
  have hK_0_160 : ∀ j : Int, 0 ≤ j → j < 2010 → 0 ≤ w_ei ws (w_ar ws (n_v vs 0) 160) j ∧ w_ei ws (w_ar ws (n_v vs 0) 160) j ≤ 4 := fun j h0 h1 => th_el hD hth cr_0_160 (kd := 0) (n := 2010) (m := 2010) (lo := 0) (hi := 4) (rs := []) (L := []) rfl (by decide) (j := j.toNat) (by omega)
  have kz_0_11 : 0 ≤ w_fi ws (n_v vs 0) 11 ∧ w_fi ws (n_v vs 0) 11 ≤ 2000 := tv_rng (th_fd hD hth r0 (g := GG_150) rfl (k := 11) (t := (0, 0, 2000, [])) rfl rfl)
  have kz_0_157 : 0 ≤ w_fi ws (n_v vs 0) 157 ∧ w_fi ws (n_v vs 0) 157 ≤ 2010 := tv_rng (th_fd hD hth r0 (g := GG_150) rfl (k := 157) (t := (0, 0, 2010, [])) rfl rfl)
  have kb_0_11 : 0 ≤ w_fi ws (n_v vs 0) 11 ∧ w_fi ws (n_v vs 0) 11 ≤ 2000 := tv_rng (th_fd hD hth r0 (g := GG_150) rfl (k := 11) (t := (0, 0, 2000, [])) rfl rfl)
  obtain ⟨x, ex, hx⟩ := iv_ex (ta := ta) (lo := 0) (hi := 4001) (z := 4000 + ((-2) * w_fi ws (n_v vs 0) 11 + (1 * v_iv (n_v vs 19) + 0))) (by omega) (by omega) (by omega) (by omega)
  have ex2 : v_iv (Value.int x) = 4000 + ((-2) * w_fi ws (n_v vs 0) 11 + (1 * v_iv (n_v vs 19) + 0)) := ex
  have ex3 : 0 ≤ v_iv (Value.int x) ∧ v_iv (Value.int x) ≤ 4001 := tv_rng hx
  have e_0 : n_v (vs ++ [Value.int x]) 0 = n_v vs 0 := n_v_old (by rw [hl]; decide)
  have e_2 : n_v (vs ++ [Value.int x]) 2 = n_v vs 2 := n_v_old (by rw [hl]; decide)
  have e_19 : n_v (vs ++ [Value.int x]) 19 = n_v vs 19 := n_v_old (by rw [hl]; decide)
  have e_20 : n_v (vs ++ [Value.int x]) 20 = Value.int x := n_v_new hl
  have nf0 : fc_1 (20, [2, 19], [50, 2, 1, 157, 11, 160, 2, 16, 0, 7, 4, 3, 2, 0, 157, 1, 1, 4, 3, 2, 0, 11, 0, 1, 3, 6, 1, 2, 1, 1, 0, 1, 2, 7, 0, 2, 0, 1, 2, 0, 157, 3, 14, 1, 10, 3, 0, 160, 5, 3, 2, 0, 157, 0, 1, 0, 0, 1, 10, 3, 0, 160, 5, 3, 2, 0, 157, 0, 1, 0, 4]) ws (vs ++ [Value.int x]) := by
    refine ⟨fun n hn => ?_, ?_⟩
    · have hn : n ∈ [2, 19] := hn
      rw [List.length_append, hl]
      simp only [List.mem_cons, List.not_mem_nil, or_false] at hn
      show n < 20 + 1; omega
    · show ((w_fi ws (n_v (vs ++ [Value.int x]) 2) 157 + v_iv (n_v (vs ++ [Value.int x]) 19)) ≤ (w_fi ws (n_v (vs ++ [Value.int x]) 2) 11 + 1)) ∧ ((v_iv (n_v (vs ++ [Value.int x]) 19) = 1) ∨ ((1 ≤ w_fi ws (n_v (vs ++ [Value.int x]) 2) 157) ∧ ((w_ei ws (w_ar ws (n_v (vs ++ [Value.int x]) 2) 160) ((w_fi ws (n_v (vs ++ [Value.int x]) 2) 157 - 1)) = 0) ∨ (w_ei ws (w_ar ws (n_v (vs ++ [Value.int x]) 2) 160) ((w_fi ws (n_v (vs ++ [Value.int x]) 2) 157 - 1)) = 4))))
      rw [e_2]
      rw [e_19]
      rw [q2]
      first | omega | grind
  have nf1 : fc_1 (24, [0, 2], []) ws (vs ++ [Value.int x]) := by
    refine ⟨fun n hn => ?_, ?_⟩
    · have hn : n ∈ [0, 2] := hn
      rw [List.length_append, hl]
      simp only [List.mem_cons, List.not_mem_nil, or_false] at hn
      show n < 20 + 1; omega
    · show n_v (vs ++ [Value.int x]) 0 = n_v (vs ++ [Value.int x]) 2
      first | rfl | simp only [e_0, e_2, q2]
  have nf2 : fc_1 (20, [20, 2, 19], [30, 4000, 1, 0, 0, 2, 1, 11, -1, 0, 0]) ws (vs ++ [Value.int x]) := by
    refine ⟨fun n hn => ?_, ?_⟩
    · have hn : n ∈ [20, 2, 19] := hn
      rw [List.length_append, hl]
      simp only [List.mem_cons, List.not_mem_nil, or_false] at hn
      show n < 20 + 1; omega
    · show 1 * v_iv (n_v (vs ++ [Value.int x]) 20) + (2 * w_fi ws (n_v (vs ++ [Value.int x]) 2) 11 + ((-1) * v_iv (n_v (vs ++ [Value.int x]) 19) + 0)) ≤ 4000
      rw [e_2]
      rw [e_19]
      rw [e_20]
      rw [q2]
      omega
  have nf3 : fc_1 (20, [20, 2, 19], [30, -4000, -1, 0, 0, -2, 1, 11, 1, 0, 0]) ws (vs ++ [Value.int x]) := by
    refine ⟨fun n hn => ?_, ?_⟩
    · have hn : n ∈ [20, 2, 19] := hn
      rw [List.length_append, hl]
      simp only [List.mem_cons, List.not_mem_nil, or_false] at hn
      show n < 20 + 1; omega
    · show (-1) * v_iv (n_v (vs ++ [Value.int x]) 20) + ((-2) * w_fi ws (n_v (vs ++ [Value.int x]) 2) 11 + (1 * v_iv (n_v (vs ++ [Value.int x]) 19) + 0)) ≤ (-4000)
      rw [e_2]
      rw [e_19]
      rw [e_20]
      rw [q2]
      omega
  obtain ⟨x0, e0, _, _⟩ := tv_int t10 rfl
  have e1 : v_iv (n_v vs 10) = x0.toInt := by rw [e0]; rfl
  have ho : sy_ofs (vs ++ [Value.int x]) (20, 10, -1000000000000, -1) := by
    refine ⟨x, x0, by rw [List.getElem?_append_right (by rw [hl]; decide), hl]; rfl, ?_, ?_, ?_⟩
    · rw [List.getElem?_append_left (by rw [hl]; decide)]; exact n_v_some (by rw [hl]; decide) e0
    · show x0.toInt + (-1000000000000) ≤ x.toInt; omega
    · show x.toInt ≤ x0.toInt + (-1); omega
  exact ⟨(fun _ h => (by cases h)), [Value.int x], ag_one hx, List.forall_mem_cons.mpr ⟨⟨show (20 : Nat) < 100 from by decide, nf0⟩, List.forall_mem_cons.mpr ⟨⟨show (24 : Nat) < 100 from by decide, nf1⟩, List.forall_mem_cons.mpr ⟨⟨show (20 : Nat) < 100 from by decide, nf2⟩, List.forall_mem_cons.mpr ⟨⟨show (20 : Nat) < 100 from by decide, nf3⟩, (fun _ h => (by cases h))⟩⟩⟩⟩, List.forall_mem_cons.mpr ⟨ho, (fun _ h => (by cases h))⟩⟩
def o_Mo_styleTokens_53 : or_T := (17, 20, [(0, (2, 0, 0, [150])), (2, (2, 0, 0, [150])), (6, (0, 0, 2000, [])), (7, (0, 1, 3, [])), (9, (0, 0, 2000, [])), (10, (0, 0, 4001, [])), (11, (2, 0, 0, [259])), (12, (0, 0, 2000, [])), (13, (2, 0, 0, [260])), (14, (2, 0, 0, [261])), (15, (2, 0, 0, [262])), (16, (0, 1, 1, [])), (17, (0, 1, 2001, [])), (18, (0, 4, 4, [])), (19, (0, 1, 1, []))], [(7, [7, 18], [1]), (8, [7], [1]), (20, [10, 6], [30, -4001, -1, 0, 0, -2, 0, 0]), (24, [0, 2], []), (101, [2, 17], [157]), (1, [17, 12, 16], []), (9, [12, 2], [157]), (20, [2, 6, 7], [50, 2, 0, 157, 11, 2, 7, 0, 3, 2, 0, 157, 1, 1, 2, 7, 0, 2, 1, 1, 2, 0, 11, 3, 6, 1, 2, 1, 2, 0, 0, 3, 6, 1, 2, 1, 2, 0, 4, 0, 6, 4, 2, 1, 1, 0, 1, 2, 0, 11]), (20, [10, 6], [30, -4001, -1, 0, 0, -2, 0, 0]), (100, [15, 12, 9], []), (9, [9, 2], [11]), (9, [15, 2], [163]), (20, [2, 6, 7], [50, 2, 0, 157, 11, 2, 7, 0, 3, 2, 0, 157, 1, 1, 2, 7, 0, 2, 1, 1, 2, 0, 11, 3, 6, 1, 2, 1, 2, 0, 0, 3, 6, 1, 2, 1, 2, 0, 4, 0, 6, 4, 2, 1, 1, 0, 1, 2, 0, 11]), (20, [10, 6], [30, -4001, -1, 0, 0, -2, 0, 0]), (100, [14, 12, 6], []), (9, [14, 2], [162]), (20, [2, 6, 7], [50, 2, 0, 157, 11, 2, 7, 0, 3, 2, 0, 157, 1, 1, 2, 7, 0, 2, 1, 1, 2, 0, 11, 3, 6, 1, 2, 1, 2, 0, 0, 3, 6, 1, 2, 1, 2, 0, 4, 0, 6, 4, 2, 1, 1, 0, 1, 2, 0, 11]), (20, [10, 6], [30, -4001, -1, 0, 0, -2, 0, 0]), (100, [13, 12, 8], []), (9, [13, 2], [161]), (20, [2, 6, 7], [50, 2, 0, 157, 11, 2, 7, 0, 3, 2, 0, 157, 1, 1, 2, 7, 0, 2, 1, 1, 2, 0, 11, 3, 6, 1, 2, 1, 2, 0, 0, 3, 6, 1, 2, 1, 2, 0, 4, 0, 6, 4, 2, 1, 1, 0, 1, 2, 0, 11]), (20, [10, 6], [30, -4001, -1, 0, 0, -2, 0, 0]), (100, [11, 12, 7], []), (9, [11, 2], [160]), (20, [2, 6, 7], [50, 2, 0, 157, 11, 2, 7, 0, 3, 2, 0, 157, 1, 1, 2, 7, 0, 2, 1, 1, 2, 0, 11, 3, 6, 1, 2, 1, 2, 0, 0, 3, 6, 1, 2, 1, 2, 0, 4, 0, 6, 4, 2, 1, 1, 0, 1, 2, 0, 11]), (20, [10, 6], [30, -4001, -1, 0, 0, -2, 0, 0])], [], [(0, 0, 4001, [])], [(20, [2, 19], [50, 2, 1, 157, 11, 160, 2, 16, 0, 7, 4, 3, 2, 0, 157, 1, 1, 4, 3, 2, 0, 11, 0, 1, 3, 6, 1, 2, 1, 1, 0, 1, 2, 7, 0, 2, 0, 1, 2, 0, 157, 3, 14, 1, 10, 3, 0, 160, 5, 3, 2, 0, 157, 0, 1, 0, 0, 1, 10, 3, 0, 160, 5, 3, 2, 0, 157, 0, 1, 0, 4]), (24, [0, 2], []), (20, [20, 2, 19], [30, 4000, 1, 0, 0, 2, 1, 11, -1, 0, 0]), (20, [20, 2, 19], [30, -4000, -1, 0, 0, -2, 1, 11, 1, 0, 0])], [(20, 10, -1000000000000, -1)], [(17, 12, 1, 1), (6, 9, -4294967296, 4294967295), (7, 6, -4294967296, 4)])
theorem oo_Mo_styleTokens_53 {kA : Nat → ClassId} : or_ok kA GG o_Mo_styleTokens_53 := by
  intro A ta ws vs hD hth hl hk hds hf
  have hl : vs.length = 20 := hl
  have hk : ∀ q ∈ ([(0, (2, 0, 0, [150])), (2, (2, 0, 0, [150])), (6, (0, 0, 2000, [])), (7, (0, 1, 3, [])), (9, (0, 0, 2000, [])), (10, (0, 0, 4001, [])), (11, (2, 0, 0, [259])), (12, (0, 0, 2000, [])), (13, (2, 0, 0, [260])), (14, (2, 0, 0, [261])), (15, (2, 0, 0, [262])), (16, (0, 1, 1, [])), (17, (0, 1, 2001, [])), (18, (0, 4, 4, [])), (19, (0, 1, 1, []))] : List (Nat × tv_T)), tv_ok ta q.2 (n_v vs q.1) := hk
  obtain ⟨t0, hk⟩ := List.forall_mem_cons.mp hk
  have t0 : tv_ok ta (2, 0, 0, [150]) (n_v vs 0) := t0
  have r0 : ta (v_ad (n_v vs 0)) = some 150 := tv_rg t0
  obtain ⟨t2, hk⟩ := List.forall_mem_cons.mp hk
  have t2 : tv_ok ta (2, 0, 0, [150]) (n_v vs 2) := t2
  have r2 : ta (v_ad (n_v vs 2)) = some 150 := tv_rg t2
  obtain ⟨t6, hk⟩ := List.forall_mem_cons.mp hk
  have t6 : tv_ok ta (0, 0, 2000, []) (n_v vs 6) := t6
  have k6 : 0 ≤ v_iv (n_v vs 6) ∧ v_iv (n_v vs 6) ≤ 2000 := tv_rng t6
  obtain ⟨t7, hk⟩ := List.forall_mem_cons.mp hk
  have t7 : tv_ok ta (0, 1, 3, []) (n_v vs 7) := t7
  have k7 : 1 ≤ v_iv (n_v vs 7) ∧ v_iv (n_v vs 7) ≤ 3 := tv_rng t7
  obtain ⟨t9, hk⟩ := List.forall_mem_cons.mp hk
  have t9 : tv_ok ta (0, 0, 2000, []) (n_v vs 9) := t9
  have k9 : 0 ≤ v_iv (n_v vs 9) ∧ v_iv (n_v vs 9) ≤ 2000 := tv_rng t9
  obtain ⟨t10, hk⟩ := List.forall_mem_cons.mp hk
  have t10 : tv_ok ta (0, 0, 4001, []) (n_v vs 10) := t10
  have k10 : 0 ≤ v_iv (n_v vs 10) ∧ v_iv (n_v vs 10) ≤ 4001 := tv_rng t10
  obtain ⟨t11, hk⟩ := List.forall_mem_cons.mp hk
  have t11 : tv_ok ta (2, 0, 0, [259]) (n_v vs 11) := t11
  have r11 : ta (v_ad (n_v vs 11)) = some 259 := tv_rg t11
  obtain ⟨t12, hk⟩ := List.forall_mem_cons.mp hk
  have t12 : tv_ok ta (0, 0, 2000, []) (n_v vs 12) := t12
  have k12 : 0 ≤ v_iv (n_v vs 12) ∧ v_iv (n_v vs 12) ≤ 2000 := tv_rng t12
  obtain ⟨t13, hk⟩ := List.forall_mem_cons.mp hk
  have t13 : tv_ok ta (2, 0, 0, [260]) (n_v vs 13) := t13
  have r13 : ta (v_ad (n_v vs 13)) = some 260 := tv_rg t13
  obtain ⟨t14, hk⟩ := List.forall_mem_cons.mp hk
  have t14 : tv_ok ta (2, 0, 0, [261]) (n_v vs 14) := t14
  have r14 : ta (v_ad (n_v vs 14)) = some 261 := tv_rg t14
  obtain ⟨t15, hk⟩ := List.forall_mem_cons.mp hk
  have t15 : tv_ok ta (2, 0, 0, [262]) (n_v vs 15) := t15
  have r15 : ta (v_ad (n_v vs 15)) = some 262 := tv_rg t15
  obtain ⟨t16, hk⟩ := List.forall_mem_cons.mp hk
  have t16 : tv_ok ta (0, 1, 1, []) (n_v vs 16) := t16
  have k16 : 1 ≤ v_iv (n_v vs 16) ∧ v_iv (n_v vs 16) ≤ 1 := tv_rng t16
  obtain ⟨t17, hk⟩ := List.forall_mem_cons.mp hk
  have t17 : tv_ok ta (0, 1, 2001, []) (n_v vs 17) := t17
  have k17 : 1 ≤ v_iv (n_v vs 17) ∧ v_iv (n_v vs 17) ≤ 2001 := tv_rng t17
  obtain ⟨t18, hk⟩ := List.forall_mem_cons.mp hk
  have t18 : tv_ok ta (0, 4, 4, []) (n_v vs 18) := t18
  have k18 : 4 ≤ v_iv (n_v vs 18) ∧ v_iv (n_v vs 18) ≤ 4 := tv_rng t18
  obtain ⟨t19, hk⟩ := List.forall_mem_cons.mp hk
  have t19 : tv_ok ta (0, 1, 1, []) (n_v vs 19) := t19
  have k19 : 1 ≤ v_iv (n_v vs 19) ∧ v_iv (n_v vs 19) ≤ 1 := tv_rng t19
  have hds : ∀ q ∈ ([(17, 12, 1, 1), (6, 9, -4294967296, 4294967295), (7, 6, -4294967296, 4)] : List of_T), n_iv vs q.2.1 + q.2.2.1 ≤ n_iv vs q.1 ∧ n_iv vs q.1 ≤ n_iv vs q.2.1 + q.2.2.2 := hds
  obtain ⟨d0, hds⟩ := List.forall_mem_cons.mp hds
  have d0 : v_iv (n_v vs 12) + 1 ≤ v_iv (n_v vs 17) ∧ v_iv (n_v vs 17) ≤ v_iv (n_v vs 12) + 1 := d0
  obtain ⟨d1, hds⟩ := List.forall_mem_cons.mp hds
  have d1 : v_iv (n_v vs 9) + (-4294967296) ≤ v_iv (n_v vs 6) ∧ v_iv (n_v vs 6) ≤ v_iv (n_v vs 9) + 4294967295 := d1
  obtain ⟨d2, hds⟩ := List.forall_mem_cons.mp hds
  have d2 : v_iv (n_v vs 6) + (-4294967296) ≤ v_iv (n_v vs 7) ∧ v_iv (n_v vs 7) ≤ v_iv (n_v vs 6) + 4 := d2
  have hf : fc_ok [(7, [7, 18], [1]), (8, [7], [1]), (20, [10, 6], [30, -4001, -1, 0, 0, -2, 0, 0]), (24, [0, 2], []), (101, [2, 17], [157]), (1, [17, 12, 16], []), (9, [12, 2], [157]), (20, [2, 6, 7], [50, 2, 0, 157, 11, 2, 7, 0, 3, 2, 0, 157, 1, 1, 2, 7, 0, 2, 1, 1, 2, 0, 11, 3, 6, 1, 2, 1, 2, 0, 0, 3, 6, 1, 2, 1, 2, 0, 4, 0, 6, 4, 2, 1, 1, 0, 1, 2, 0, 11]), (20, [10, 6], [30, -4001, -1, 0, 0, -2, 0, 0]), (100, [15, 12, 9], []), (9, [9, 2], [11]), (9, [15, 2], [163]), (20, [2, 6, 7], [50, 2, 0, 157, 11, 2, 7, 0, 3, 2, 0, 157, 1, 1, 2, 7, 0, 2, 1, 1, 2, 0, 11, 3, 6, 1, 2, 1, 2, 0, 0, 3, 6, 1, 2, 1, 2, 0, 4, 0, 6, 4, 2, 1, 1, 0, 1, 2, 0, 11]), (20, [10, 6], [30, -4001, -1, 0, 0, -2, 0, 0]), (100, [14, 12, 6], []), (9, [14, 2], [162]), (20, [2, 6, 7], [50, 2, 0, 157, 11, 2, 7, 0, 3, 2, 0, 157, 1, 1, 2, 7, 0, 2, 1, 1, 2, 0, 11, 3, 6, 1, 2, 1, 2, 0, 0, 3, 6, 1, 2, 1, 2, 0, 4, 0, 6, 4, 2, 1, 1, 0, 1, 2, 0, 11]), (20, [10, 6], [30, -4001, -1, 0, 0, -2, 0, 0]), (100, [13, 12, 8], []), (9, [13, 2], [161]), (20, [2, 6, 7], [50, 2, 0, 157, 11, 2, 7, 0, 3, 2, 0, 157, 1, 1, 2, 7, 0, 2, 1, 1, 2, 0, 11, 3, 6, 1, 2, 1, 2, 0, 0, 3, 6, 1, 2, 1, 2, 0, 4, 0, 6, 4, 2, 1, 1, 0, 1, 2, 0, 11]), (20, [10, 6], [30, -4001, -1, 0, 0, -2, 0, 0]), (100, [11, 12, 7], []), (9, [11, 2], [160]), (20, [2, 6, 7], [50, 2, 0, 157, 11, 2, 7, 0, 3, 2, 0, 157, 1, 1, 2, 7, 0, 2, 1, 1, 2, 0, 11, 3, 6, 1, 2, 1, 2, 0, 0, 3, 6, 1, 2, 1, 2, 0, 4, 0, 6, 4, 2, 1, 1, 0, 1, 2, 0, 11]), (20, [10, 6], [30, -4001, -1, 0, 0, -2, 0, 0])] ta ws vs := hf
  obtain ⟨f0, hf⟩ := fc_un (show (7 : Nat) < 100 from by decide) hf
  have f0 : v_iv (n_v vs 7) ≠ v_iv (n_v vs 18) := f0
  obtain ⟨f1, hf⟩ := fc_un (show (8 : Nat) < 100 from by decide) hf
  have f1 : v_iv (n_v vs 7) ≠ 0 := f1
  obtain ⟨f2, hf⟩ := fc_un (show (20 : Nat) < 100 from by decide) hf
  have f2 : (-1) * v_iv (n_v vs 10) + ((-2) * v_iv (n_v vs 6) + 0) ≤ (-4001) := f2
  obtain ⟨f3, hf⟩ := fc_un (show (24 : Nat) < 100 from by decide) hf
  have f3 : n_v vs 0 = n_v vs 2 := f3
  obtain ⟨ta1, w1, le1, ⟨_, s1⟩, hf⟩ := fc_us (show ¬ (101 : Nat) < 100 from by decide) hf
  have s1 : (∀ b j, w_el ws b j = w_el w1 b j) ∧ ∀ b j, w_fd ws b j = if b = v_ad (n_v vs 2) ∧ j = 157 then n_v vs 17 else w_fd w1 b j := s1
  obtain ⟨f5, hf⟩ := fc_un (show (1 : Nat) < 100 from by decide) hf
  have f5 : v_iv (n_v vs 17) = v_iv (n_v vs 12) + v_iv (n_v vs 16) := f5
  obtain ⟨f6, hf⟩ := fc_un (show (9 : Nat) < 100 from by decide) hf
  have f6 : n_v vs 12 = w_fd w1 (v_ad (n_v vs 2)) 157 := f6
  obtain ⟨f7, hf⟩ := fc_un (show (20 : Nat) < 100 from by decide) hf
  have f7 : (w_fi w1 (n_v vs 2) 157 ≤ v_iv (n_v vs 6)) ∧ ((v_iv (n_v vs 6) ≤ w_fi w1 (n_v vs 2) 11) ∧ ((v_iv (n_v vs 7) = 0) ∨ ((v_iv (n_v vs 7) = 4) ∨ ((v_iv (n_v vs 6) + 1) ≤ w_fi w1 (n_v vs 2) 11)))) := f7
  obtain ⟨f8, hf⟩ := fc_un (show (20 : Nat) < 100 from by decide) hf
  have f8 : (-1) * v_iv (n_v vs 10) + ((-2) * v_iv (n_v vs 6) + 0) ≤ (-4001) := f8
  obtain ⟨ta2, w2, le2, ⟨_, s2⟩, hf⟩ := fc_us (show ¬ (100 : Nat) < 100 from by decide) hf
  have s2 : (∀ b j, w_el w1 b j = if b = v_ad (n_v vs 15) ∧ j = (v_iv (n_v vs 12)).toNat then v_iv (n_v vs 9) else w_el w2 b j) ∧ ∀ b k, w_fd w1 b k = w_fd w2 b k := s2
  obtain ⟨f10, hf⟩ := fc_un (show (9 : Nat) < 100 from by decide) hf
  have f10 : n_v vs 9 = w_fd w2 (v_ad (n_v vs 2)) 11 := f10
  obtain ⟨f11, hf⟩ := fc_un (show (9 : Nat) < 100 from by decide) hf
  have f11 : n_v vs 15 = w_fd w2 (v_ad (n_v vs 2)) 163 := f11
  obtain ⟨f12, hf⟩ := fc_un (show (20 : Nat) < 100 from by decide) hf
  have f12 : (w_fi w2 (n_v vs 2) 157 ≤ v_iv (n_v vs 6)) ∧ ((v_iv (n_v vs 6) ≤ w_fi w2 (n_v vs 2) 11) ∧ ((v_iv (n_v vs 7) = 0) ∨ ((v_iv (n_v vs 7) = 4) ∨ ((v_iv (n_v vs 6) + 1) ≤ w_fi w2 (n_v vs 2) 11)))) := f12
  obtain ⟨f13, hf⟩ := fc_un (show (20 : Nat) < 100 from by decide) hf
  have f13 : (-1) * v_iv (n_v vs 10) + ((-2) * v_iv (n_v vs 6) + 0) ≤ (-4001) := f13
  obtain ⟨ta3, w3, le3, ⟨_, s3⟩, hf⟩ := fc_us (show ¬ (100 : Nat) < 100 from by decide) hf
  have s3 : (∀ b j, w_el w2 b j = if b = v_ad (n_v vs 14) ∧ j = (v_iv (n_v vs 12)).toNat then v_iv (n_v vs 6) else w_el w3 b j) ∧ ∀ b k, w_fd w2 b k = w_fd w3 b k := s3
  obtain ⟨f15, hf⟩ := fc_un (show (9 : Nat) < 100 from by decide) hf
  have f15 : n_v vs 14 = w_fd w3 (v_ad (n_v vs 2)) 162 := f15
  obtain ⟨f16, hf⟩ := fc_un (show (20 : Nat) < 100 from by decide) hf
  have f16 : (w_fi w3 (n_v vs 2) 157 ≤ v_iv (n_v vs 6)) ∧ ((v_iv (n_v vs 6) ≤ w_fi w3 (n_v vs 2) 11) ∧ ((v_iv (n_v vs 7) = 0) ∨ ((v_iv (n_v vs 7) = 4) ∨ ((v_iv (n_v vs 6) + 1) ≤ w_fi w3 (n_v vs 2) 11)))) := f16
  obtain ⟨f17, hf⟩ := fc_un (show (20 : Nat) < 100 from by decide) hf
  have f17 : (-1) * v_iv (n_v vs 10) + ((-2) * v_iv (n_v vs 6) + 0) ≤ (-4001) := f17
  obtain ⟨ta4, w4, le4, ⟨_, s4⟩, hf⟩ := fc_us (show ¬ (100 : Nat) < 100 from by decide) hf
  have s4 : (∀ b j, w_el w3 b j = if b = v_ad (n_v vs 13) ∧ j = (v_iv (n_v vs 12)).toNat then v_iv (n_v vs 8) else w_el w4 b j) ∧ ∀ b k, w_fd w3 b k = w_fd w4 b k := s4
  obtain ⟨f19, hf⟩ := fc_un (show (9 : Nat) < 100 from by decide) hf
  have f19 : n_v vs 13 = w_fd w4 (v_ad (n_v vs 2)) 161 := f19
  obtain ⟨f20, hf⟩ := fc_un (show (20 : Nat) < 100 from by decide) hf
  have f20 : (w_fi w4 (n_v vs 2) 157 ≤ v_iv (n_v vs 6)) ∧ ((v_iv (n_v vs 6) ≤ w_fi w4 (n_v vs 2) 11) ∧ ((v_iv (n_v vs 7) = 0) ∨ ((v_iv (n_v vs 7) = 4) ∨ ((v_iv (n_v vs 6) + 1) ≤ w_fi w4 (n_v vs 2) 11)))) := f20
  obtain ⟨f21, hf⟩ := fc_un (show (20 : Nat) < 100 from by decide) hf
  have f21 : (-1) * v_iv (n_v vs 10) + ((-2) * v_iv (n_v vs 6) + 0) ≤ (-4001) := f21
  obtain ⟨ta5, w5, le5, ⟨_, s5⟩, hf⟩ := fc_us (show ¬ (100 : Nat) < 100 from by decide) hf
  have s5 : (∀ b j, w_el w4 b j = if b = v_ad (n_v vs 11) ∧ j = (v_iv (n_v vs 12)).toNat then v_iv (n_v vs 7) else w_el w5 b j) ∧ ∀ b k, w_fd w4 b k = w_fd w5 b k := s5
  obtain ⟨f23, hf⟩ := fc_un (show (9 : Nat) < 100 from by decide) hf
  have f23 : n_v vs 11 = w_fd w5 (v_ad (n_v vs 2)) 160 := f23
  obtain ⟨f24, hf⟩ := fc_un (show (20 : Nat) < 100 from by decide) hf
  have f24 : (w_fi w5 (n_v vs 2) 157 ≤ v_iv (n_v vs 6)) ∧ ((v_iv (n_v vs 6) ≤ w_fi w5 (n_v vs 2) 11) ∧ ((v_iv (n_v vs 7) = 0) ∨ ((v_iv (n_v vs 7) = 4) ∨ ((v_iv (n_v vs 6) + 1) ≤ w_fi w5 (n_v vs 2) 11)))) := f24
  obtain ⟨f25, hf⟩ := fc_un (show (20 : Nat) < 100 from by decide) hf
  have f25 : (-1) * v_iv (n_v vs 10) + ((-2) * v_iv (n_v vs 6) + 0) ≤ (-4001) := f25
  have q2 : n_v vs 2 = n_v vs 0 := f3.symm
  rw [q2] at s1
  rw [q2] at f6
  rw [q2] at f7
  rw [q2] at f10
  rw [q2] at f11
  rw [q2] at f12
  rw [q2] at f15
  rw [q2] at f16
  rw [q2] at f19
  rw [q2] at f20
  rw [q2] at f23
  rw [q2] at f24
  have ar_0_160_1 : w_ar w1 (n_v vs 0) 160 = w_ar ws (n_v vs 0) 160 := by show v_ad (w_fd w1 _ _) = v_ad (w_fd ws _ _); rw [s1.2, if_neg (fun e => absurd e.2 (by decide))]
  have ar_0_160_2 : w_ar w2 (n_v vs 0) 160 = w_ar ws (n_v vs 0) 160 := by rw [← ar_0_160_1]; show v_ad (w_fd w2 _ _) = v_ad (w_fd w1 _ _); rw [s2.2]
  have ar_0_160_3 : w_ar w3 (n_v vs 0) 160 = w_ar ws (n_v vs 0) 160 := by rw [← ar_0_160_2]; show v_ad (w_fd w3 _ _) = v_ad (w_fd w2 _ _); rw [s3.2]
  have ar_0_160_4 : w_ar w4 (n_v vs 0) 160 = w_ar ws (n_v vs 0) 160 := by rw [← ar_0_160_3]; show v_ad (w_fd w4 _ _) = v_ad (w_fd w3 _ _); rw [s4.2]
  have ar_0_160_5 : w_ar w5 (n_v vs 0) 160 = w_ar ws (n_v vs 0) 160 := by rw [← ar_0_160_4]; show v_ad (w_fd w5 _ _) = v_ad (w_fd w4 _ _); rw [s5.2]
  have cr_0_160 : ta (w_ar ws (n_v vs 0) 160) = some 259 := tv_rg (th_fd hD hth r0 (g := GG_150) rfl (k := 160) (t := (2, 0, 0, [259])) rfl rfl)
  have ar_0_161_1 : w_ar w1 (n_v vs 0) 161 = w_ar ws (n_v vs 0) 161 := by show v_ad (w_fd w1 _ _) = v_ad (w_fd ws _ _); rw [s1.2, if_neg (fun e => absurd e.2 (by decide))]
  have ar_0_161_2 : w_ar w2 (n_v vs 0) 161 = w_ar ws (n_v vs 0) 161 := by rw [← ar_0_161_1]; show v_ad (w_fd w2 _ _) = v_ad (w_fd w1 _ _); rw [s2.2]
  have ar_0_161_3 : w_ar w3 (n_v vs 0) 161 = w_ar ws (n_v vs 0) 161 := by rw [← ar_0_161_2]; show v_ad (w_fd w3 _ _) = v_ad (w_fd w2 _ _); rw [s3.2]
  have ar_0_161_4 : w_ar w4 (n_v vs 0) 161 = w_ar ws (n_v vs 0) 161 := by rw [← ar_0_161_3]; show v_ad (w_fd w4 _ _) = v_ad (w_fd w3 _ _); rw [s4.2]
  have ar_0_161_5 : w_ar w5 (n_v vs 0) 161 = w_ar ws (n_v vs 0) 161 := by rw [← ar_0_161_4]; show v_ad (w_fd w5 _ _) = v_ad (w_fd w4 _ _); rw [s5.2]
  have cr_0_161 : ta (w_ar ws (n_v vs 0) 161) = some 260 := tv_rg (th_fd hD hth r0 (g := GG_150) rfl (k := 161) (t := (2, 0, 0, [260])) rfl rfl)
  have ar_0_162_1 : w_ar w1 (n_v vs 0) 162 = w_ar ws (n_v vs 0) 162 := by show v_ad (w_fd w1 _ _) = v_ad (w_fd ws _ _); rw [s1.2, if_neg (fun e => absurd e.2 (by decide))]
  have ar_0_162_2 : w_ar w2 (n_v vs 0) 162 = w_ar ws (n_v vs 0) 162 := by rw [← ar_0_162_1]; show v_ad (w_fd w2 _ _) = v_ad (w_fd w1 _ _); rw [s2.2]
  have ar_0_162_3 : w_ar w3 (n_v vs 0) 162 = w_ar ws (n_v vs 0) 162 := by rw [← ar_0_162_2]; show v_ad (w_fd w3 _ _) = v_ad (w_fd w2 _ _); rw [s3.2]
  have ar_0_162_4 : w_ar w4 (n_v vs 0) 162 = w_ar ws (n_v vs 0) 162 := by rw [← ar_0_162_3]; show v_ad (w_fd w4 _ _) = v_ad (w_fd w3 _ _); rw [s4.2]
  have ar_0_162_5 : w_ar w5 (n_v vs 0) 162 = w_ar ws (n_v vs 0) 162 := by rw [← ar_0_162_4]; show v_ad (w_fd w5 _ _) = v_ad (w_fd w4 _ _); rw [s5.2]
  have cr_0_162 : ta (w_ar ws (n_v vs 0) 162) = some 261 := tv_rg (th_fd hD hth r0 (g := GG_150) rfl (k := 162) (t := (2, 0, 0, [261])) rfl rfl)
  have ar_0_163_1 : w_ar w1 (n_v vs 0) 163 = w_ar ws (n_v vs 0) 163 := by show v_ad (w_fd w1 _ _) = v_ad (w_fd ws _ _); rw [s1.2, if_neg (fun e => absurd e.2 (by decide))]
  have ar_0_163_2 : w_ar w2 (n_v vs 0) 163 = w_ar ws (n_v vs 0) 163 := by rw [← ar_0_163_1]; show v_ad (w_fd w2 _ _) = v_ad (w_fd w1 _ _); rw [s2.2]
  have ar_0_163_3 : w_ar w3 (n_v vs 0) 163 = w_ar ws (n_v vs 0) 163 := by rw [← ar_0_163_2]; show v_ad (w_fd w3 _ _) = v_ad (w_fd w2 _ _); rw [s3.2]
  have ar_0_163_4 : w_ar w4 (n_v vs 0) 163 = w_ar ws (n_v vs 0) 163 := by rw [← ar_0_163_3]; show v_ad (w_fd w4 _ _) = v_ad (w_fd w3 _ _); rw [s4.2]
  have ar_0_163_5 : w_ar w5 (n_v vs 0) 163 = w_ar ws (n_v vs 0) 163 := by rw [← ar_0_163_4]; show v_ad (w_fd w5 _ _) = v_ad (w_fd w4 _ _); rw [s5.2]
  have cr_0_163 : ta (w_ar ws (n_v vs 0) 163) = some 262 := tv_rg (th_fd hD hth r0 (g := GG_150) rfl (k := 163) (t := (2, 0, 0, [262])) rfl rfl)
  have ad_15 : v_ad (n_v vs 15) = w_ar ws (n_v vs 0) 163 := (congrArg v_ad f11).trans ar_0_163_2
  have ad_14 : v_ad (n_v vs 14) = w_ar ws (n_v vs 0) 162 := (congrArg v_ad f15).trans ar_0_162_3
  have ad_13 : v_ad (n_v vs 13) = w_ar ws (n_v vs 0) 161 := (congrArg v_ad f19).trans ar_0_161_4
  have ad_11 : v_ad (n_v vs 11) = w_ar ws (n_v vs 0) 160 := (congrArg v_ad f23).trans ar_0_160_5
  have g6 : v_iv (n_v vs 12) = w_fi w1 (n_v vs 0) 157 := congrArg v_iv f6
  have g10 : v_iv (n_v vs 9) = w_fi w2 (n_v vs 0) 11 := congrArg v_iv f10
  have fe_0_11_1 : w_fi ws (n_v vs 0) 11 = w_fi w1 (n_v vs 0) 11 := by show v_iv (w_fd _ _ _) = v_iv (w_fd _ _ _); rw [s1.2, if_neg (fun e => absurd e.2 (by decide))]
  have fe_0_157_1 : w_fi ws (n_v vs 0) 157 = v_iv (n_v vs 17) := by show v_iv (w_fd _ _ _) = _; rw [s1.2, if_pos ⟨rfl, rfl⟩]
  have fe_0_11_2 : w_fi w1 (n_v vs 0) 11 = w_fi w2 (n_v vs 0) 11 := congrArg v_iv (s2.2 _ _)
  have fe_0_157_2 : w_fi w1 (n_v vs 0) 157 = w_fi w2 (n_v vs 0) 157 := congrArg v_iv (s2.2 _ _)
  have fe_0_11_3 : w_fi w2 (n_v vs 0) 11 = w_fi w3 (n_v vs 0) 11 := congrArg v_iv (s3.2 _ _)
  have fe_0_157_3 : w_fi w2 (n_v vs 0) 157 = w_fi w3 (n_v vs 0) 157 := congrArg v_iv (s3.2 _ _)
  have fe_0_11_4 : w_fi w3 (n_v vs 0) 11 = w_fi w4 (n_v vs 0) 11 := congrArg v_iv (s4.2 _ _)
  have fe_0_157_4 : w_fi w3 (n_v vs 0) 157 = w_fi w4 (n_v vs 0) 157 := congrArg v_iv (s4.2 _ _)
  have fe_0_11_5 : w_fi w4 (n_v vs 0) 11 = w_fi w5 (n_v vs 0) 11 := congrArg v_iv (s5.2 _ _)
  have fe_0_157_5 : w_fi w4 (n_v vs 0) 157 = w_fi w5 (n_v vs 0) 157 := congrArg v_iv (s5.2 _ _)
  have hE_0_160_1 : ∀ j : Int, w_ei ws (w_ar ws (n_v vs 0) 160) j = w_ei w1 (w_ar ws (n_v vs 0) 160) j := fun j => s1.1 _ _
  have hE_0_160_2 : ∀ j : Int, w_ei w1 (w_ar ws (n_v vs 0) 160) j = w_ei w2 (w_ar ws (n_v vs 0) 160) j := fun j => by unfold w_ei; rw [s2.1, if_neg (fun e => by have e1 := e.1; rw [← e1] at r15; rw [cr_0_160] at r15; exact absurd (Option.some.inj r15) (by decide))]
  have hE_0_160_3 : ∀ j : Int, w_ei w2 (w_ar ws (n_v vs 0) 160) j = w_ei w3 (w_ar ws (n_v vs 0) 160) j := fun j => by unfold w_ei; rw [s3.1, if_neg (fun e => by have e1 := e.1; rw [← e1] at r14; rw [cr_0_160] at r14; exact absurd (Option.some.inj r14) (by decide))]
  have hE_0_160_4 : ∀ j : Int, w_ei w3 (w_ar ws (n_v vs 0) 160) j = w_ei w4 (w_ar ws (n_v vs 0) 160) j := fun j => by unfold w_ei; rw [s4.1, if_neg (fun e => by have e1 := e.1; rw [← e1] at r13; rw [cr_0_160] at r13; exact absurd (Option.some.inj r13) (by decide))]
  have hE_0_160_5 : ∀ j : Int, 0 ≤ j → (j = v_iv (n_v vs 12) → w_ei w4 (w_ar ws (n_v vs 0) 160) j = v_iv (n_v vs 7)) ∧ (j ≠ v_iv (n_v vs 12) → w_ei w4 (w_ar ws (n_v vs 0) 160) j = w_ei w5 (w_ar ws (n_v vs 0) 160) j) := fun j hj => ⟨fun h => by unfold w_ei; rw [s5.1, if_pos ⟨ad_11.symm, by rw [h]⟩], fun h => by unfold w_ei; rw [s5.1, if_neg (fun e => h (by have := e.2; omega))]⟩
  have hK_0_160 : ∀ j : Int, 0 ≤ j → j < 2010 → 0 ≤ w_ei ws (w_ar ws (n_v vs 0) 160) j ∧ w_ei ws (w_ar ws (n_v vs 0) 160) j ≤ 4 := fun j h0 h1 => th_el hD hth cr_0_160 (kd := 0) (n := 2010) (m := 2010) (lo := 0) (hi := 4) (rs := []) (L := []) rfl (by decide) (j := j.toNat) (by omega)
  have kz_0_11 : 0 ≤ w_fi ws (n_v vs 0) 11 ∧ w_fi ws (n_v vs 0) 11 ≤ 2000 := tv_rng (th_fd hD hth r0 (g := GG_150) rfl (k := 11) (t := (0, 0, 2000, [])) rfl rfl)
  have kz_0_157 : 0 ≤ w_fi ws (n_v vs 0) 157 ∧ w_fi ws (n_v vs 0) 157 ≤ 2010 := tv_rng (th_fd hD hth r0 (g := GG_150) rfl (k := 157) (t := (0, 0, 2010, [])) rfl rfl)
  have kb_0_11 : 0 ≤ w_fi ws (n_v vs 0) 11 ∧ w_fi ws (n_v vs 0) 11 ≤ 2000 := tv_rng (th_fd hD hth r0 (g := GG_150) rfl (k := 11) (t := (0, 0, 2000, [])) rfl rfl)
  obtain ⟨x, ex, hx⟩ := iv_ex (ta := ta) (lo := 0) (hi := 4001) (z := 4000 + ((-2) * w_fi ws (n_v vs 0) 11 + (1 * v_iv (n_v vs 19) + 0))) (by omega) (by omega) (by omega) (by omega)
  have ex2 : v_iv (Value.int x) = 4000 + ((-2) * w_fi ws (n_v vs 0) 11 + (1 * v_iv (n_v vs 19) + 0)) := ex
  have ex3 : 0 ≤ v_iv (Value.int x) ∧ v_iv (Value.int x) ≤ 4001 := tv_rng hx
  have e_0 : n_v (vs ++ [Value.int x]) 0 = n_v vs 0 := n_v_old (by rw [hl]; decide)
  have e_2 : n_v (vs ++ [Value.int x]) 2 = n_v vs 2 := n_v_old (by rw [hl]; decide)
  have e_19 : n_v (vs ++ [Value.int x]) 19 = n_v vs 19 := n_v_old (by rw [hl]; decide)
  have e_20 : n_v (vs ++ [Value.int x]) 20 = Value.int x := n_v_new hl
  have nf0 : fc_1 (20, [2, 19], [50, 2, 1, 157, 11, 160, 2, 16, 0, 7, 4, 3, 2, 0, 157, 1, 1, 4, 3, 2, 0, 11, 0, 1, 3, 6, 1, 2, 1, 1, 0, 1, 2, 7, 0, 2, 0, 1, 2, 0, 157, 3, 14, 1, 10, 3, 0, 160, 5, 3, 2, 0, 157, 0, 1, 0, 0, 1, 10, 3, 0, 160, 5, 3, 2, 0, 157, 0, 1, 0, 4]) ws (vs ++ [Value.int x]) := by
    refine ⟨fun n hn => ?_, ?_⟩
    · have hn : n ∈ [2, 19] := hn
      rw [List.length_append, hl]
      simp only [List.mem_cons, List.not_mem_nil, or_false] at hn
      show n < 20 + 1; omega
    · show ((w_fi ws (n_v (vs ++ [Value.int x]) 2) 157 + v_iv (n_v (vs ++ [Value.int x]) 19)) ≤ (w_fi ws (n_v (vs ++ [Value.int x]) 2) 11 + 1)) ∧ ((v_iv (n_v (vs ++ [Value.int x]) 19) = 1) ∨ ((1 ≤ w_fi ws (n_v (vs ++ [Value.int x]) 2) 157) ∧ ((w_ei ws (w_ar ws (n_v (vs ++ [Value.int x]) 2) 160) ((w_fi ws (n_v (vs ++ [Value.int x]) 2) 157 - 1)) = 0) ∨ (w_ei ws (w_ar ws (n_v (vs ++ [Value.int x]) 2) 160) ((w_fi ws (n_v (vs ++ [Value.int x]) 2) 157 - 1)) = 4))))
      rw [e_2]
      rw [e_19]
      rw [q2]
      first | omega | grind
  have nf1 : fc_1 (24, [0, 2], []) ws (vs ++ [Value.int x]) := by
    refine ⟨fun n hn => ?_, ?_⟩
    · have hn : n ∈ [0, 2] := hn
      rw [List.length_append, hl]
      simp only [List.mem_cons, List.not_mem_nil, or_false] at hn
      show n < 20 + 1; omega
    · show n_v (vs ++ [Value.int x]) 0 = n_v (vs ++ [Value.int x]) 2
      first | rfl | simp only [e_0, e_2, q2]
  have nf2 : fc_1 (20, [20, 2, 19], [30, 4000, 1, 0, 0, 2, 1, 11, -1, 0, 0]) ws (vs ++ [Value.int x]) := by
    refine ⟨fun n hn => ?_, ?_⟩
    · have hn : n ∈ [20, 2, 19] := hn
      rw [List.length_append, hl]
      simp only [List.mem_cons, List.not_mem_nil, or_false] at hn
      show n < 20 + 1; omega
    · show 1 * v_iv (n_v (vs ++ [Value.int x]) 20) + (2 * w_fi ws (n_v (vs ++ [Value.int x]) 2) 11 + ((-1) * v_iv (n_v (vs ++ [Value.int x]) 19) + 0)) ≤ 4000
      rw [e_2]
      rw [e_19]
      rw [e_20]
      rw [q2]
      omega
  have nf3 : fc_1 (20, [20, 2, 19], [30, -4000, -1, 0, 0, -2, 1, 11, 1, 0, 0]) ws (vs ++ [Value.int x]) := by
    refine ⟨fun n hn => ?_, ?_⟩
    · have hn : n ∈ [20, 2, 19] := hn
      rw [List.length_append, hl]
      simp only [List.mem_cons, List.not_mem_nil, or_false] at hn
      show n < 20 + 1; omega
    · show (-1) * v_iv (n_v (vs ++ [Value.int x]) 20) + ((-2) * w_fi ws (n_v (vs ++ [Value.int x]) 2) 11 + (1 * v_iv (n_v (vs ++ [Value.int x]) 19) + 0)) ≤ (-4000)
      rw [e_2]
      rw [e_19]
      rw [e_20]
      rw [q2]
      omega
  obtain ⟨x0, e0, _, _⟩ := tv_int t10 rfl
  have e1 : v_iv (n_v vs 10) = x0.toInt := by rw [e0]; rfl
  have ho : sy_ofs (vs ++ [Value.int x]) (20, 10, -1000000000000, -1) := by
    refine ⟨x, x0, by rw [List.getElem?_append_right (by rw [hl]; decide), hl]; rfl, ?_, ?_, ?_⟩
    · rw [List.getElem?_append_left (by rw [hl]; decide)]; exact n_v_some (by rw [hl]; decide) e0
    · show x0.toInt + (-1000000000000) ≤ x.toInt; omega
    · show x.toInt ≤ x0.toInt + (-1); omega
  exact ⟨(fun _ h => (by cases h)), [Value.int x], ag_one hx, List.forall_mem_cons.mpr ⟨⟨show (20 : Nat) < 100 from by decide, nf0⟩, List.forall_mem_cons.mpr ⟨⟨show (24 : Nat) < 100 from by decide, nf1⟩, List.forall_mem_cons.mpr ⟨⟨show (20 : Nat) < 100 from by decide, nf2⟩, List.forall_mem_cons.mpr ⟨⟨show (20 : Nat) < 100 from by decide, nf3⟩, (fun _ h => (by cases h))⟩⟩⟩⟩, List.forall_mem_cons.mpr ⟨ho, (fun _ h => (by cases h))⟩⟩
def n_Mo_styleTokens_an : List an_T := [(17, [(0, (2, 0, 0, [150])), (1, (0, 0, 2000, [])), (2, (0, 0, 1, []))], [], (0, 0), [(0, 0, 99983), (2, 7, 0), (0, 0, 100000), (0, 0, 0), (0, 0, 0)], [(1, 3, -1000000000000, 0), (1, 4, -1000000000000, 2000), (1, 5, -1000000000000, 2000), (1, 6, -1000000000000, 2000), (3, 1, -1000000000000, 0), (3, 4, -1000000000000, 2000), (3, 5, -1000000000000, 2000), (3, 6, -1000000000000, 2000), (4, 1, -1000000000000, 1), (4, 3, -1000000000000, 1), (4, 5, -1000000000000, 1), (4, 6, -1000000000000, 1), (6, 1, -1000000000000, 2001), (6, 3, -1000000000000, 2001), (6, 4, -1000000000000, 2001), (6, 5, -1000000000000, 2001)], [((0, 11), (0, 0, 2000, [])), ((0, 157), (0, 0, 2001, []))], [(2, 0, 0, [150]), (0, 0, 2000, [])], 0, [(0, 0, 4001, [])], [(20, [2, 4], [50, 2, 1, 157, 11, 160, 2, 16, 0, 7, 4, 3, 2, 0, 157, 1, 1, 4, 3, 2, 0, 11, 0, 1, 3, 6, 1, 2, 1, 1, 0, 1, 2, 7, 0, 2, 0, 1, 2, 0, 157, 3, 14, 1, 10, 3, 0, 160, 5, 3, 2, 0, 157, 0, 1, 0, 0, 1, 10, 3, 0, 160, 5, 3, 2, 0, 157, 0, 1, 0, 4]), (24, [0, 2], []), (20, [7, 2, 4], [30, 4000, 1, 0, 0, 2, 1, 11, -1, 0, 0]), (20, [7, 2, 4], [30, -4000, -1, 0, 0, -2, 1, 11, 1, 0, 0])]), (21, [(0, (2, 0, 0, [150])), (1, (0, 0, 2000, [])), (2, (0, 1, 1, []))], [], (0, 0), [(0, 0, 99983), (2, 6, 0), (0, 0, 99979), (1, 5, 2000), (0, 0, 100000)], [(1, 3, -1000000000000, 0), (1, 4, -1000000000000, 1999), (1, 5, -1000000000000, 2000), (3, 1, -1000000000000, 0), (3, 4, -1000000000000, 1999), (3, 5, -1000000000000, 2000), (4, 1, -1000000000000, 1), (4, 3, -1000000000000, 1), (4, 5, -1000000000000, 1)], [((0, 11), (0, 0, 2000, []))], [(2, 0, 0, [150]), (0, 0, 2000, [])], 0, [(0, 0, 4001, [])], [(20, [2], [50, 2, 0, 157, 11, 0, 3, 2, 0, 157, 2, 0, 11]), (20, [6, 2], [30, -4001, -1, 0, 0, -2, 1, 11]), (24, [0, 2], [])]), (60, [(0, (2, 0, 0, [150])), (1, (0, 0, 2000, [])), (2, (0, 1, 1, []))], [], (0, 0), [(0, 0, 99983), (2, 6, 0), (0, 0, 99940), (0, 0, 0), (0, 0, 0)], [(1, 3, -1000000000000, 0), (1, 4, -1000000000000, 1999), (1, 5, -1000000000000, 2000), (3, 1, -1000000000000, 0), (3, 4, -1000000000000, 1999), (3, 5, -1000000000000, 2000), (4, 1, -1000000000000, 1), (4, 3, -1000000000000, 1), (4, 5, -1000000000000, 1)], [((0, 11), (0, 0, 2000, []))], [(2, 0, 0, [150]), (0, 0, 2000, [])], 0, [(0, 0, 4001, [])], [(20, [2], [50, 2, 0, 157, 11, 0, 3, 2, 0, 157, 2, 0, 11]), (20, [6, 2], [30, -4001, -1, 0, 0, -2, 1, 11]), (24, [0, 2], [])]), (103, [(0, (2, 0, 0, [150])), (1, (0, 0, 2000, [])), (2, (0, 1, 1, [])), (3, (0, 97, 122, [])), (4, (0, 0, 1999, [])), (5, (0, 4, 4, [])), (6, (1, 0, 255, []))], [], (0, 0), [(0, 0, 99983), (2, 10, 0), (0, 0, 99897), (1, 9, 2000), (0, 0, 100000)], [(1, 3, -1000000000000, 0), (1, 4, -1000000000000, 1999), (1, 5, -1000000000000, 1903), (1, 6, -1000000000000, 2000), (1, 7, -1000000000000, 1996), (1, 9, -1000000000000, 2000), (3, 1, -1000000000000, 0), (3, 4, -1000000000000, 1999), (3, 5, -1000000000000, 1903), (3, 6, -1000000000000, 2000), (3, 7, -1000000000000, 1996), (3, 9, -1000000000000, 2000), (4, 1, -1000000000000, 1), (4, 3, -1000000000000, 1), (4, 5, -1000000000000, -96), (4, 6, -1000000000000, 1), (4, 7, -1000000000000, -3), (4, 9, -1000000000000, 1), (5, 1, -1000000000000, 122), (5, 3, -1000000000000, 122), (5, 4, -1000000000000, 121), (5, 6, -1000000000000, 122), (5, 7, -1000000000000, 118), (5, 9, -1000000000000, 122), (6, 9, -1000000000000, 0), (7, 1, -1000000000000, 4), (7, 3, -1000000000000, 4), (7, 4, -1000000000000, 3), (7, 5, -1000000000000, -93), (7, 6, -1000000000000, 4), (7, 9, -1000000000000, 4)], [((0, 11), (0, 0, 2000, []))], [(2, 0, 0, [150]), (0, 0, 2000, [])], 0, [(0, 0, 4001, [])], [(20, [2, 6], [50, 3, 1, 157, 11, 10, 1, 2, 7, 0, 3, 2, 0, 157, 1, 1, 2, 7, 0, 2, 1, 1, 2, 0, 11, 3, 11, 0, 6, 4, 2, 1, 1, 0, 1, 2, 0, 11, 2, 7, 1, 3, 2, 0, 11, 1, 1, 2, 11, 0, 6, 4, 2, 1, 1, 0, 1, 2, 0, 10, 2, 13, 0, 2, 0, 97, 9, 5, 3, 0, 1, 1, 1, 0, 256, 0, 9, 9, 5, 3, 0, 1, 1, 1, 0, 256, 0, 122]), (20, [10, 6], [30, -4001, -1, 0, 0, -2, 0, 0]), (24, [0, 2], [])]), (166, [(0, (2, 0, 0, [150])), (1, (0, 0, 2000, [])), (2, (0, 1, 1, [])), (3, (0, 48, 57, [])), (4, (0, 0, 1999, [])), (5, (0, 4, 4, [])), (6, (1, -9223372036854775808, 9223372036854775807, []))], [], (0, 0), [(0, 0, 99983), (2, 10, 0), (0, 0, 99834), (1, 9, 2000), (0, 0, 100000)], [(1, 3, -1000000000000, 0), (1, 4, -1000000000000, 1999), (1, 5, -1000000000000, 1952), (1, 6, -1000000000000, 2000), (1, 7, -1000000000000, 1996), (1, 9, -1000000000000, 2000), (3, 1, -1000000000000, 0), (3, 4, -1000000000000, 1999), (3, 5, -1000000000000, 1952), (3, 6, -1000000000000, 2000), (3, 7, -1000000000000, 1996), (3, 9, -1000000000000, 2000), (4, 1, -1000000000000, 1), (4, 3, -1000000000000, 1), (4, 5, -1000000000000, -47), (4, 6, -1000000000000, 1), (4, 7, -1000000000000, -3), (4, 9, -1000000000000, 1), (5, 1, -1000000000000, 57), (5, 3, -1000000000000, 57), (5, 4, -1000000000000, 56), (5, 6, -1000000000000, 57), (5, 7, -1000000000000, 53), (5, 9, -1000000000000, 57), (6, 9, -1000000000000, 0), (7, 1, -1000000000000, 4), (7, 3, -1000000000000, 4), (7, 4, -1000000000000, 3), (7, 5, -1000000000000, -44), (7, 6, -1000000000000, 4), (7, 9, -1000000000000, 4)], [((0, 11), (0, 0, 2000, []))], [(2, 0, 0, [150]), (0, 0, 2000, [])], 0, [(0, 0, 4001, [])], [(20, [2, 6], [50, 3, 1, 157, 11, 10, 1, 2, 7, 0, 3, 2, 0, 157, 1, 1, 2, 7, 0, 2, 1, 1, 2, 0, 11, 3, 11, 0, 6, 4, 2, 1, 1, 0, 1, 2, 0, 11, 2, 7, 1, 3, 2, 0, 11, 1, 1, 2, 11, 0, 6, 4, 2, 1, 1, 0, 1, 2, 0, 10, 2, 13, 0, 2, 0, 48, 9, 5, 3, 0, 1, 1, 1, 0, 256, 0, 9, 9, 5, 3, 0, 1, 1, 1, 0, 256, 0, 57]), (20, [10, 6], [30, -4001, -1, 0, 0, -2, 0, 0]), (24, [0, 2], [])]), (250, [(0, (2, 0, 0, [150])), (1, (0, 0, 2000, [])), (2, (0, 1, 1, [])), (3, (0, 0, 255, [])), (4, (0, 0, 1999, [])), (5, (0, 4, 4, [])), (6, (1, 0, 255, []))], [], (0, 0), [(0, 0, 99983), (2, 10, 0), (0, 0, 99750), (0, 0, 0), (0, 0, 0)], [(1, 3, -1000000000000, 0), (1, 4, -1000000000000, 1999), (1, 5, -1000000000000, 2000), (1, 6, -1000000000000, 2000), (1, 7, -1000000000000, 1996), (1, 9, -1000000000000, 2000), (3, 1, -1000000000000, 0), (3, 4, -1000000000000, 1999), (3, 5, -1000000000000, 2000), (3, 6, -1000000000000, 2000), (3, 7, -1000000000000, 1996), (3, 9, -1000000000000, 2000), (4, 1, -1000000000000, 1), (4, 3, -1000000000000, 1), (4, 5, -1000000000000, 1), (4, 6, -1000000000000, 1), (4, 7, -1000000000000, -3), (4, 9, -1000000000000, 1), (5, 1, -1000000000000, 255), (5, 3, -1000000000000, 255), (5, 4, -1000000000000, 254), (5, 6, -1000000000000, 255), (5, 7, -1000000000000, 251), (5, 9, -1000000000000, 255), (6, 9, -1000000000000, 0), (7, 1, -1000000000000, 4), (7, 3, -1000000000000, 4), (7, 4, -1000000000000, 3), (7, 5, -1000000000000, 4), (7, 6, -1000000000000, 4), (7, 9, -1000000000000, 4), (9, 6, -1000000000000, 0)], [((0, 11), (0, 0, 1999, []))], [(2, 0, 0, [150]), (0, 0, 2000, [])], 0, [(0, 0, 4001, [])], [(20, [2, 6], [50, 2, 0, 157, 11, 2, 7, 0, 3, 2, 0, 157, 1, 1, 1, 3, 2, 0, 11, 1, 1]), (20, [10, 6], [30, -4001, -1, 0, 0, -2, 0, 0]), (24, [0, 2], [])]), (334, [(0, (2, 0, 0, [150])), (1, (0, 0, 2000, [])), (2, (0, 1, 1, [])), (3, (0, 40, 125, [])), (4, (0, 0, 1999, [])), (5, (0, 4, 4, [])), (6, (1, 0, 255, []))], [], (0, 0), [(0, 0, 99983), (2, 10, 0), (0, 0, 99666), (0, 0, 0), (0, 0, 0)], [(1, 3, -1000000000000, 0), (1, 4, -1000000000000, 1999), (1, 5, -1000000000000, 1960), (1, 6, -1000000000000, 2000), (1, 7, -1000000000000, 1996), (1, 9, -1000000000000, 2000), (3, 1, -1000000000000, 0), (3, 4, -1000000000000, 1999), (3, 5, -1000000000000, 1960), (3, 6, -1000000000000, 2000), (3, 7, -1000000000000, 1996), (3, 9, -1000000000000, 2000), (4, 1, -1000000000000, 1), (4, 3, -1000000000000, 1), (4, 5, -1000000000000, -39), (4, 6, -1000000000000, 1), (4, 7, -1000000000000, -3), (4, 9, -1000000000000, 1), (5, 1, -1000000000000, 125), (5, 3, -1000000000000, 125), (5, 4, -1000000000000, 124), (5, 6, -1000000000000, 125), (5, 7, -1000000000000, 121), (5, 9, -1000000000000, 125), (6, 9, -1000000000000, 0), (7, 1, -1000000000000, 4), (7, 3, -1000000000000, 4), (7, 4, -1000000000000, 3), (7, 5, -1000000000000, -36), (7, 6, -1000000000000, 4), (7, 9, -1000000000000, 4), (9, 6, -1000000000000, 0)], [((0, 11), (0, 0, 1999, []))], [(2, 0, 0, [150]), (0, 0, 2000, [])], 0, [(0, 0, 4001, [])], [(20, [2, 6], [50, 2, 0, 157, 11, 2, 7, 0, 3, 2, 0, 157, 1, 1, 1, 3, 2, 0, 11, 1, 1]), (20, [10, 6], [30, -4001, -1, 0, 0, -2, 0, 0]), (24, [0, 2], [])]), (339, [(0, (2, 0, 0, [150])), (1, (0, 0, 2000, [])), (2, (0, 1, 1, [])), (3, (0, 0, 255, [])), (4, (0, 0, 1999, [])), (5, (0, 4, 4, [])), (6, (1, 0, 255, []))], [(0, 0, 1, [])], (0, 0), [(0, 0, 99983), (2, 11, 0), (0, 0, 99661), (0, 0, 0), (0, 0, 0)], [(1, 3, -1000000000000, 0), (1, 4, -1000000000000, 1999), (1, 5, -1000000000000, 2000), (1, 6, -1000000000000, 2000), (1, 7, -1000000000000, 1996), (1, 9, -1000000000000, 2000), (1, 10, -1000000000000, 2000), (3, 1, -1000000000000, 0), (3, 4, -1000000000000, 1999), (3, 5, -1000000000000, 2000), (3, 6, -1000000000000, 2000), (3, 7, -1000000000000, 1996), (3, 9, -1000000000000, 2000), (3, 10, -1000000000000, 2000), (4, 1, -1000000000000, 1), (4, 3, -1000000000000, 1), (4, 5, -1000000000000, 1), (4, 6, -1000000000000, 1), (4, 7, -1000000000000, -3), (4, 9, -1000000000000, 1), (4, 10, -1000000000000, 1), (5, 1, -1000000000000, 255), (5, 3, -1000000000000, 255), (5, 4, -1000000000000, 254), (5, 6, -1000000000000, 255), (5, 7, -1000000000000, 251), (5, 9, -1000000000000, 255), (5, 10, -1000000000000, 255), (6, 10, -1000000000000, 0), (7, 1, -1000000000000, 4), (7, 3, -1000000000000, 4), (7, 4, -1000000000000, 3), (7, 5, -1000000000000, 4), (7, 6, -1000000000000, 4), (7, 9, -1000000000000, 4), (7, 10, -1000000000000, 4), (9, 1, -1000000000000, 1), (9, 3, -1000000000000, 1), (9, 4, -1000000000000, 0), (9, 5, -1000000000000, 0), (9, 6, -1000000000000, 1), (9, 7, -1000000000000, -3), (9, 10, -1000000000000, 1), (10, 6, -1000000000000, 0)], [((0, 11), (0, 0, 1999, []))], [(2, 0, 0, [150]), (0, 0, 2000, [])], 0, [(0, 0, 4001, [])], [(20, [2, 6], [50, 2, 0, 157, 11, 2, 7, 0, 3, 2, 0, 157, 1, 1, 1, 3, 2, 0, 11, 1, 1]), (20, [11, 6], [30, -4001, -1, 0, 0, -2, 0, 0]), (24, [0, 2], [])]), (363, [(0, (2, 0, 0, [150])), (1, (0, 0, 2000, [])), (2, (0, 1, 1, [])), (3, (0, -1, 255, [])), (4, (0, 0, 2000, [])), (5, (0, 0, 4, [])), (6, (1, -9223372036854775808, 9223372036854775807, []))], [], (0, 0), [(0, 0, 99983), (2, 10, 0), (0, 0, 99637), (0, 0, 0), (0, 0, 0)], [(1, 3, -1000000000000, 0), (1, 4, -1000000000000, 1999), (1, 5, -1000000000000, 2001), (1, 6, -1000000000000, 2000), (1, 7, -1000000000000, 2000), (1, 9, -1000000000000, 2147485648), (3, 1, -1000000000000, 0), (3, 4, -1000000000000, 1999), (3, 5, -1000000000000, 2001), (3, 6, -1000000000000, 2000), (3, 7, -1000000000000, 2000), (3, 9, -1000000000000, 2147485648), (4, 1, -1000000000000, 1), (4, 3, -1000000000000, 1), (4, 5, -1000000000000, 2), (4, 6, -1000000000000, 1), (4, 7, -1000000000000, 1), (4, 9, -1000000000000, 2147483649), (6, 9, -1000000000000, 4294967295), (7, 1, -1000000000000, 4), (7, 3, -1000000000000, 4), (7, 4, -1000000000000, 3), (7, 5, -1000000000000, 4), (7, 6, -1000000000000, 4)], [((0, 11), (0, 0, 2000, []))], [(2, 0, 0, [150]), (0, 0, 2000, [])], 0, [(0, 0, 4001, [])], [(20, [2, 6, 7], [50, 2, 0, 157, 11, 2, 7, 0, 3, 2, 0, 157, 1, 1, 2, 7, 0, 2, 1, 1, 2, 0, 11, 3, 6, 1, 2, 1, 2, 0, 0, 3, 6, 1, 2, 1, 2, 0, 4, 0, 6, 4, 2, 1, 1, 0, 1, 2, 0, 11]), (20, [10, 6], [30, -4001, -1, 0, 0, -2, 0, 0]), (24, [0, 2], [])])]
def t_Mo_styleTokens_ct : ct_L := [(0, 387, e_Mo_in), (0, 444, e_Mo_isDigit), (1, 425, e_Mo_byteAt)]
set_option maxRecDepth 100000 in
theorem c_Mo_styleTokens {l : Launch} {D : va_G} {kA : Nat → ClassId} (h_Mo_byteAt : ct_ok l D kA GG y_Mo_byteAt z_Mo_byteAt e_Mo_byteAt) (h_Mo_in : ct_ok l D kA GG y_Mo_in z_Mo_in e_Mo_in) (h_Mo_isDigit : ct_ok l D kA GG y_Mo_isDigit z_Mo_isDigit e_Mo_isDigit) : ct_ok l D kA GG y_Mo_styleTokens z_Mo_styleTokens e_Mo_styleTokens := chk_all_ok (FT := [(342, 13, 160), (345, 13, 161), (348, 13, 162), (351, 13, 163), (422, 13, 11), (1160, 13, 157)]) (PT := [(419, 13, 10, .int), (422, 13, 11, .int), (1160, 13, 157, .int)]) (CT := t_Mo_styleTokens_ct) (KT := [(2, 1163, .long (99999), (1, 99999, 99999, [])), (2, 1165, .long (10), (1, 10, 10, [])), (2, 1167, .long (48), (1, 48, 48, []))]) (NT := []) (AN := n_Mo_styleTokens_an) (OT := [o_Mo_styleTokens_0, o_Mo_styleTokens_1, o_Mo_styleTokens_2, o_Mo_styleTokens_3, o_Mo_styleTokens_4, o_Mo_styleTokens_5, o_Mo_styleTokens_6, o_Mo_styleTokens_7, o_Mo_styleTokens_8, o_Mo_styleTokens_9, o_Mo_styleTokens_10, o_Mo_styleTokens_11, o_Mo_styleTokens_12, o_Mo_styleTokens_13, o_Mo_styleTokens_14, o_Mo_styleTokens_15, o_Mo_styleTokens_16, o_Mo_styleTokens_17, o_Mo_styleTokens_18, o_Mo_styleTokens_19, o_Mo_styleTokens_20, o_Mo_styleTokens_21, o_Mo_styleTokens_22, o_Mo_styleTokens_23, o_Mo_styleTokens_24, o_Mo_styleTokens_25, o_Mo_styleTokens_26, o_Mo_styleTokens_27, o_Mo_styleTokens_28, o_Mo_styleTokens_29, o_Mo_styleTokens_30, o_Mo_styleTokens_31, o_Mo_styleTokens_32, o_Mo_styleTokens_33, o_Mo_styleTokens_34, o_Mo_styleTokens_35, o_Mo_styleTokens_36, o_Mo_styleTokens_37, o_Mo_styleTokens_38, o_Mo_styleTokens_39, o_Mo_styleTokens_40, o_Mo_styleTokens_41, o_Mo_styleTokens_42, o_Mo_styleTokens_43, o_Mo_styleTokens_44, o_Mo_styleTokens_45, o_Mo_styleTokens_46, o_Mo_styleTokens_47, o_Mo_styleTokens_48, o_Mo_styleTokens_49, o_Mo_styleTokens_50, o_Mo_styleTokens_51, o_Mo_styleTokens_52, o_Mo_styleTokens_53]) 5 1476 (List.forall_mem_cons.mpr ⟨oo_Mo_styleTokens_0, List.forall_mem_cons.mpr ⟨oo_Mo_styleTokens_1, List.forall_mem_cons.mpr ⟨oo_Mo_styleTokens_2, List.forall_mem_cons.mpr ⟨oo_Mo_styleTokens_3, List.forall_mem_cons.mpr ⟨oo_Mo_styleTokens_4, List.forall_mem_cons.mpr ⟨oo_Mo_styleTokens_5, List.forall_mem_cons.mpr ⟨oo_Mo_styleTokens_6, List.forall_mem_cons.mpr ⟨oo_Mo_styleTokens_7, List.forall_mem_cons.mpr ⟨oo_Mo_styleTokens_8, List.forall_mem_cons.mpr ⟨oo_Mo_styleTokens_9, List.forall_mem_cons.mpr ⟨oo_Mo_styleTokens_10, List.forall_mem_cons.mpr ⟨oo_Mo_styleTokens_11, List.forall_mem_cons.mpr ⟨oo_Mo_styleTokens_12, List.forall_mem_cons.mpr ⟨oo_Mo_styleTokens_13, List.forall_mem_cons.mpr ⟨oo_Mo_styleTokens_14, List.forall_mem_cons.mpr ⟨oo_Mo_styleTokens_15, List.forall_mem_cons.mpr ⟨oo_Mo_styleTokens_16, List.forall_mem_cons.mpr ⟨oo_Mo_styleTokens_17, List.forall_mem_cons.mpr ⟨oo_Mo_styleTokens_18, List.forall_mem_cons.mpr ⟨oo_Mo_styleTokens_19, List.forall_mem_cons.mpr ⟨oo_Mo_styleTokens_20, List.forall_mem_cons.mpr ⟨oo_Mo_styleTokens_21, List.forall_mem_cons.mpr ⟨oo_Mo_styleTokens_22, List.forall_mem_cons.mpr ⟨oo_Mo_styleTokens_23, List.forall_mem_cons.mpr ⟨oo_Mo_styleTokens_24, List.forall_mem_cons.mpr ⟨oo_Mo_styleTokens_25, List.forall_mem_cons.mpr ⟨oo_Mo_styleTokens_26, List.forall_mem_cons.mpr ⟨oo_Mo_styleTokens_27, List.forall_mem_cons.mpr ⟨oo_Mo_styleTokens_28, List.forall_mem_cons.mpr ⟨oo_Mo_styleTokens_29, List.forall_mem_cons.mpr ⟨oo_Mo_styleTokens_30, List.forall_mem_cons.mpr ⟨oo_Mo_styleTokens_31, List.forall_mem_cons.mpr ⟨oo_Mo_styleTokens_32, List.forall_mem_cons.mpr ⟨oo_Mo_styleTokens_33, List.forall_mem_cons.mpr ⟨oo_Mo_styleTokens_34, List.forall_mem_cons.mpr ⟨oo_Mo_styleTokens_35, List.forall_mem_cons.mpr ⟨oo_Mo_styleTokens_36, List.forall_mem_cons.mpr ⟨oo_Mo_styleTokens_37, List.forall_mem_cons.mpr ⟨oo_Mo_styleTokens_38, List.forall_mem_cons.mpr ⟨oo_Mo_styleTokens_39, List.forall_mem_cons.mpr ⟨oo_Mo_styleTokens_40, List.forall_mem_cons.mpr ⟨oo_Mo_styleTokens_41, List.forall_mem_cons.mpr ⟨oo_Mo_styleTokens_42, List.forall_mem_cons.mpr ⟨oo_Mo_styleTokens_43, List.forall_mem_cons.mpr ⟨oo_Mo_styleTokens_44, List.forall_mem_cons.mpr ⟨oo_Mo_styleTokens_45, List.forall_mem_cons.mpr ⟨oo_Mo_styleTokens_46, List.forall_mem_cons.mpr ⟨oo_Mo_styleTokens_47, List.forall_mem_cons.mpr ⟨oo_Mo_styleTokens_48, List.forall_mem_cons.mpr ⟨oo_Mo_styleTokens_49, List.forall_mem_cons.mpr ⟨oo_Mo_styleTokens_50, List.forall_mem_cons.mpr ⟨oo_Mo_styleTokens_51, List.forall_mem_cons.mpr ⟨oo_Mo_styleTokens_52, List.forall_mem_cons.mpr ⟨oo_Mo_styleTokens_53, List.forall_mem_nil _⟩⟩⟩⟩⟩⟩⟩⟩⟩⟩⟩⟩⟩⟩⟩⟩⟩⟩⟩⟩⟩⟩⟩⟩⟩⟩⟩⟩⟩⟩⟩⟩⟩⟩⟩⟩⟩⟩⟩⟩⟩⟩⟩⟩⟩⟩⟩⟩⟩⟩⟩⟩⟩⟩) (by decide +kernel) ⟨List.forall_mem_cons.mpr ⟨gf_Mo_342, List.forall_mem_cons.mpr ⟨gf_Mo_345, List.forall_mem_cons.mpr ⟨gf_Mo_348, List.forall_mem_cons.mpr ⟨gf_Mo_351, List.forall_mem_cons.mpr ⟨gf_Mo_422, List.forall_mem_cons.mpr ⟨gf_Mo_1160, List.forall_mem_nil _⟩⟩⟩⟩⟩⟩, List.forall_mem_cons.mpr ⟨pf_Mo_419, List.forall_mem_cons.mpr ⟨pf_Mo_422, List.forall_mem_cons.mpr ⟨pf_Mo_1160, List.forall_mem_nil _⟩⟩⟩, List.forall_mem_cons.mpr ⟨cl_static (y := y_Mo_in) h_Mo_in wm_2971 wm_9 wm_2969 wm_2970 ⟨by decide, by decide, by decide +kernel⟩ (by decide), List.forall_mem_cons.mpr ⟨cl_static (y := y_Mo_isDigit) h_Mo_isDigit wm_2992 wm_9 wm_2990 wm_2991 ⟨by decide, by decide, by decide +kernel⟩ (by decide), List.forall_mem_cons.mpr ⟨cl_virtual (y := y_Mo_byteAt) (ci := 13) rfl rfl ⟨_, _, rfl⟩ (by decide +kernel) h_Mo_byteAt wm_2986 wm_9 wm_2983 wm_2985 wv_12_12 ⟨by decide, by decide, by decide +kernel⟩ (by decide), List.forall_mem_nil _⟩⟩⟩, List.forall_mem_cons.mpr ⟨⟨kt_mk2 wm_3799, fun _ => Or.inr (Or.inl ⟨rfl, _, rfl, by decide, by decide⟩)⟩, List.forall_mem_cons.mpr ⟨⟨kt_mk2 wm_3800, fun _ => Or.inr (Or.inl ⟨rfl, _, rfl, by decide, by decide⟩)⟩, List.forall_mem_cons.mpr ⟨⟨kt_mk2 wm_3801, fun _ => Or.inr (Or.inl ⟨rfl, _, rfl, by decide, by decide⟩)⟩, List.forall_mem_nil _⟩⟩⟩, List.forall_mem_nil _, GG_pl⟩ (by decide +kernel)
def o_Mo_ex_0 : or_T := (59, 16, [(0, (2, 0, 0, [150])), (1, (0, 0, 47, [])), (2, (0, 1, 25, [])), (3, (0, 2, 26, [])), (4, (0, 1, 1, [])), (5, (0, 1, 25, [])), (7, (0, 24, 24, [])), (8, (0, 48, 48, [])), (9, (0, 0, 3, [])), (10, (0, 0, 144, [])), (11, (0, 0, 191, [])), (12, (0, 0, 4584, [])), (13, (0, 1, 4609, [])), (14, (0, 1, 1, [])), (15, (0, 0, 4608, []))], [(2, [15, 13, 14], []), (1, [13, 12, 2], []), (3, [12, 7, 11], []), (1, [11, 10, 1], []), (3, [10, 8, 9], []), (9, [9, 0], [139]), (7, [2, 5], [1]), (2, [5, 3, 4], []), (20, [3, 0, 1], [50, 1, 1, 1139, 1064, 1, 2, 1, 0, 4, 14, 3, 1, 64, 4, 7, 6, 2, 0, 48, 2, 1, 139, 1, 2, 0, 2]), (8, [2], [1]), (20, [2, 0, 1], [50, 1, 1, 1139, 1064, 0, 2, 1, 0, 4, 14, 3, 1, 64, 4, 7, 6, 2, 0, 48, 2, 1, 139, 1, 2, 0, 1])], [(15, (0, 0, 4607, []))], [], [], [], [(15, 13, -1, -1), (15, 2, -1, 4583), (15, 12, 0, 24), (13, 2, 0, 4584), (13, 12, 1, 25), (11, 1, 0, 144), (11, 10, 0, 47), (5, 3, -1, -1)])
theorem oo_Mo_ex_0 {kA : Nat → ClassId} : or_ok kA GG o_Mo_ex_0 := by
  intro A ta ws vs hD hth hl hk hds hf
  have hl : vs.length = 16 := hl
  have hk : ∀ q ∈ ([(0, (2, 0, 0, [150])), (1, (0, 0, 47, [])), (2, (0, 1, 25, [])), (3, (0, 2, 26, [])), (4, (0, 1, 1, [])), (5, (0, 1, 25, [])), (7, (0, 24, 24, [])), (8, (0, 48, 48, [])), (9, (0, 0, 3, [])), (10, (0, 0, 144, [])), (11, (0, 0, 191, [])), (12, (0, 0, 4584, [])), (13, (0, 1, 4609, [])), (14, (0, 1, 1, [])), (15, (0, 0, 4608, []))] : List (Nat × tv_T)), tv_ok ta q.2 (n_v vs q.1) := hk
  obtain ⟨t0, hk⟩ := List.forall_mem_cons.mp hk
  have t0 : tv_ok ta (2, 0, 0, [150]) (n_v vs 0) := t0
  have r0 : ta (v_ad (n_v vs 0)) = some 150 := tv_rg t0
  obtain ⟨t1, hk⟩ := List.forall_mem_cons.mp hk
  have t1 : tv_ok ta (0, 0, 47, []) (n_v vs 1) := t1
  have k1 : 0 ≤ v_iv (n_v vs 1) ∧ v_iv (n_v vs 1) ≤ 47 := tv_rng t1
  obtain ⟨t2, hk⟩ := List.forall_mem_cons.mp hk
  have t2 : tv_ok ta (0, 1, 25, []) (n_v vs 2) := t2
  have k2 : 1 ≤ v_iv (n_v vs 2) ∧ v_iv (n_v vs 2) ≤ 25 := tv_rng t2
  obtain ⟨t3, hk⟩ := List.forall_mem_cons.mp hk
  have t3 : tv_ok ta (0, 2, 26, []) (n_v vs 3) := t3
  have k3 : 2 ≤ v_iv (n_v vs 3) ∧ v_iv (n_v vs 3) ≤ 26 := tv_rng t3
  obtain ⟨t4, hk⟩ := List.forall_mem_cons.mp hk
  have t4 : tv_ok ta (0, 1, 1, []) (n_v vs 4) := t4
  have k4 : 1 ≤ v_iv (n_v vs 4) ∧ v_iv (n_v vs 4) ≤ 1 := tv_rng t4
  obtain ⟨t5, hk⟩ := List.forall_mem_cons.mp hk
  have t5 : tv_ok ta (0, 1, 25, []) (n_v vs 5) := t5
  have k5 : 1 ≤ v_iv (n_v vs 5) ∧ v_iv (n_v vs 5) ≤ 25 := tv_rng t5
  obtain ⟨t7, hk⟩ := List.forall_mem_cons.mp hk
  have t7 : tv_ok ta (0, 24, 24, []) (n_v vs 7) := t7
  have k7 : 24 ≤ v_iv (n_v vs 7) ∧ v_iv (n_v vs 7) ≤ 24 := tv_rng t7
  obtain ⟨t8, hk⟩ := List.forall_mem_cons.mp hk
  have t8 : tv_ok ta (0, 48, 48, []) (n_v vs 8) := t8
  have k8 : 48 ≤ v_iv (n_v vs 8) ∧ v_iv (n_v vs 8) ≤ 48 := tv_rng t8
  obtain ⟨t9, hk⟩ := List.forall_mem_cons.mp hk
  have t9 : tv_ok ta (0, 0, 3, []) (n_v vs 9) := t9
  have k9 : 0 ≤ v_iv (n_v vs 9) ∧ v_iv (n_v vs 9) ≤ 3 := tv_rng t9
  obtain ⟨t10, hk⟩ := List.forall_mem_cons.mp hk
  have t10 : tv_ok ta (0, 0, 144, []) (n_v vs 10) := t10
  have k10 : 0 ≤ v_iv (n_v vs 10) ∧ v_iv (n_v vs 10) ≤ 144 := tv_rng t10
  obtain ⟨t11, hk⟩ := List.forall_mem_cons.mp hk
  have t11 : tv_ok ta (0, 0, 191, []) (n_v vs 11) := t11
  have k11 : 0 ≤ v_iv (n_v vs 11) ∧ v_iv (n_v vs 11) ≤ 191 := tv_rng t11
  obtain ⟨t12, hk⟩ := List.forall_mem_cons.mp hk
  have t12 : tv_ok ta (0, 0, 4584, []) (n_v vs 12) := t12
  have k12 : 0 ≤ v_iv (n_v vs 12) ∧ v_iv (n_v vs 12) ≤ 4584 := tv_rng t12
  obtain ⟨t13, hk⟩ := List.forall_mem_cons.mp hk
  have t13 : tv_ok ta (0, 1, 4609, []) (n_v vs 13) := t13
  have k13 : 1 ≤ v_iv (n_v vs 13) ∧ v_iv (n_v vs 13) ≤ 4609 := tv_rng t13
  obtain ⟨t14, hk⟩ := List.forall_mem_cons.mp hk
  have t14 : tv_ok ta (0, 1, 1, []) (n_v vs 14) := t14
  have k14 : 1 ≤ v_iv (n_v vs 14) ∧ v_iv (n_v vs 14) ≤ 1 := tv_rng t14
  obtain ⟨t15, hk⟩ := List.forall_mem_cons.mp hk
  have t15 : tv_ok ta (0, 0, 4608, []) (n_v vs 15) := t15
  have k15 : 0 ≤ v_iv (n_v vs 15) ∧ v_iv (n_v vs 15) ≤ 4608 := tv_rng t15
  have hds : ∀ q ∈ ([(15, 13, -1, -1), (15, 2, -1, 4583), (15, 12, 0, 24), (13, 2, 0, 4584), (13, 12, 1, 25), (11, 1, 0, 144), (11, 10, 0, 47), (5, 3, -1, -1)] : List of_T), n_iv vs q.2.1 + q.2.2.1 ≤ n_iv vs q.1 ∧ n_iv vs q.1 ≤ n_iv vs q.2.1 + q.2.2.2 := hds
  obtain ⟨d0, hds⟩ := List.forall_mem_cons.mp hds
  have d0 : v_iv (n_v vs 13) + (-1) ≤ v_iv (n_v vs 15) ∧ v_iv (n_v vs 15) ≤ v_iv (n_v vs 13) + (-1) := d0
  obtain ⟨d1, hds⟩ := List.forall_mem_cons.mp hds
  have d1 : v_iv (n_v vs 2) + (-1) ≤ v_iv (n_v vs 15) ∧ v_iv (n_v vs 15) ≤ v_iv (n_v vs 2) + 4583 := d1
  obtain ⟨d2, hds⟩ := List.forall_mem_cons.mp hds
  have d2 : v_iv (n_v vs 12) + 0 ≤ v_iv (n_v vs 15) ∧ v_iv (n_v vs 15) ≤ v_iv (n_v vs 12) + 24 := d2
  obtain ⟨d3, hds⟩ := List.forall_mem_cons.mp hds
  have d3 : v_iv (n_v vs 2) + 0 ≤ v_iv (n_v vs 13) ∧ v_iv (n_v vs 13) ≤ v_iv (n_v vs 2) + 4584 := d3
  obtain ⟨d4, hds⟩ := List.forall_mem_cons.mp hds
  have d4 : v_iv (n_v vs 12) + 1 ≤ v_iv (n_v vs 13) ∧ v_iv (n_v vs 13) ≤ v_iv (n_v vs 12) + 25 := d4
  obtain ⟨d5, hds⟩ := List.forall_mem_cons.mp hds
  have d5 : v_iv (n_v vs 1) + 0 ≤ v_iv (n_v vs 11) ∧ v_iv (n_v vs 11) ≤ v_iv (n_v vs 1) + 144 := d5
  obtain ⟨d6, hds⟩ := List.forall_mem_cons.mp hds
  have d6 : v_iv (n_v vs 10) + 0 ≤ v_iv (n_v vs 11) ∧ v_iv (n_v vs 11) ≤ v_iv (n_v vs 10) + 47 := d6
  obtain ⟨d7, hds⟩ := List.forall_mem_cons.mp hds
  have d7 : v_iv (n_v vs 3) + (-1) ≤ v_iv (n_v vs 5) ∧ v_iv (n_v vs 5) ≤ v_iv (n_v vs 3) + (-1) := d7
  have hf : fc_ok [(2, [15, 13, 14], []), (1, [13, 12, 2], []), (3, [12, 7, 11], []), (1, [11, 10, 1], []), (3, [10, 8, 9], []), (9, [9, 0], [139]), (7, [2, 5], [1]), (2, [5, 3, 4], []), (20, [3, 0, 1], [50, 1, 1, 1139, 1064, 1, 2, 1, 0, 4, 14, 3, 1, 64, 4, 7, 6, 2, 0, 48, 2, 1, 139, 1, 2, 0, 2]), (8, [2], [1]), (20, [2, 0, 1], [50, 1, 1, 1139, 1064, 0, 2, 1, 0, 4, 14, 3, 1, 64, 4, 7, 6, 2, 0, 48, 2, 1, 139, 1, 2, 0, 1])] ta ws vs := hf
  obtain ⟨f0, hf⟩ := fc_un (show (2 : Nat) < 100 from by decide) hf
  have f0 : v_iv (n_v vs 15) = v_iv (n_v vs 13) - v_iv (n_v vs 14) := f0
  obtain ⟨f1, hf⟩ := fc_un (show (1 : Nat) < 100 from by decide) hf
  have f1 : v_iv (n_v vs 13) = v_iv (n_v vs 12) + v_iv (n_v vs 2) := f1
  obtain ⟨f2, hf⟩ := fc_un (show (3 : Nat) < 100 from by decide) hf
  have f2 : v_iv (n_v vs 12) = v_iv (n_v vs 7) * v_iv (n_v vs 11) := f2
  rw [show v_iv (n_v vs 7) = 24 from by omega] at f2
  obtain ⟨f3, hf⟩ := fc_un (show (1 : Nat) < 100 from by decide) hf
  have f3 : v_iv (n_v vs 11) = v_iv (n_v vs 10) + v_iv (n_v vs 1) := f3
  obtain ⟨f4, hf⟩ := fc_un (show (3 : Nat) < 100 from by decide) hf
  have f4 : v_iv (n_v vs 10) = v_iv (n_v vs 8) * v_iv (n_v vs 9) := f4
  rw [show v_iv (n_v vs 8) = 48 from by omega] at f4
  obtain ⟨f5, hf⟩ := fc_un (show (9 : Nat) < 100 from by decide) hf
  have f5 : n_v vs 9 = w_fd ws (v_ad (n_v vs 0)) 139 := f5
  obtain ⟨f6, hf⟩ := fc_un (show (7 : Nat) < 100 from by decide) hf
  have f6 : v_iv (n_v vs 2) ≠ v_iv (n_v vs 5) := f6
  obtain ⟨f7, hf⟩ := fc_un (show (2 : Nat) < 100 from by decide) hf
  have f7 : v_iv (n_v vs 5) = v_iv (n_v vs 3) - v_iv (n_v vs 4) := f7
  obtain ⟨f8, hf⟩ := fc_un (show (20 : Nat) < 100 from by decide) hf
  have f8 : v_iv (n_v vs 3) = (w_ei ws (w_ar ws (n_v vs 0) 64) (((48 * w_fi ws (n_v vs 0) 139) + v_iv (n_v vs 1))) + 2) := f8
  obtain ⟨f9, hf⟩ := fc_un (show (8 : Nat) < 100 from by decide) hf
  have f9 : v_iv (n_v vs 2) ≠ 0 := f9
  obtain ⟨f10, hf⟩ := fc_un (show (20 : Nat) < 100 from by decide) hf
  have f10 : v_iv (n_v vs 2) ≤ (w_ei ws (w_ar ws (n_v vs 0) 64) (((48 * w_fi ws (n_v vs 0) 139) + v_iv (n_v vs 1))) + 1) := f10
  have cr_0_64 : ta (w_ar ws (n_v vs 0) 64) = some 189 := tv_rg (th_fd hD hth r0 (g := GG_150) rfl (k := 64) (t := (2, 0, 0, [189])) rfl rfl)
  have g5 : v_iv (n_v vs 9) = w_fi ws (n_v vs 0) 139 := congrArg v_iv f5
  have hK_0_64 : ∀ j : Int, 0 ≤ j → j < 192 → 0 ≤ w_ei ws (w_ar ws (n_v vs 0) 64) j ∧ w_ei ws (w_ar ws (n_v vs 0) 64) j ≤ 24 := fun j h0 h1 => th_el hD hth cr_0_64 (kd := 0) (n := 192) (m := 192) (lo := 0) (hi := 24) (rs := []) (L := []) rfl (by decide) (j := j.toNat) (by omega)
  have kz_0_139 : 0 ≤ w_fi ws (n_v vs 0) 139 ∧ w_fi ws (n_v vs 0) 139 ≤ 3 := tv_rng (th_fd hD hth r0 (g := GG_150) rfl (k := 139) (t := (0, 0, 3, [])) rfl rfl)
  have rf15 : tv_ok ta (0, 0, 4607, []) (n_v vs 15) := tv_in t15 (by first | omega | grind) (by first | omega | grind)
  refine ⟨List.forall_mem_cons.mpr ⟨rf15, (fun _ h => (by cases h))⟩, [], trivial, ?_, (fun _ h => (by cases h))⟩
  rw [List.append_nil]
  exact (fun _ h => (by cases h))
def n_Mo_ex_an : List an_T := []
def t_Mo_ex_ct : ct_L := [(1, 394, e_Mo_tail), (1, 398, e_Mo_head), (1, 1023, e_Mo_px), (1, 1026, e_Mo_pointsOf)]
set_option maxRecDepth 100000 in
theorem c_Mo_ex {l : Launch} {D : va_G} {kA : Nat → ClassId} (h_Mo_head : ct_ok l D kA GG y_Mo_head z_Mo_head e_Mo_head) (h_Mo_pointsOf : ct_ok l D kA GG y_Mo_pointsOf z_Mo_pointsOf e_Mo_pointsOf) (h_Mo_px : ct_ok l D kA GG y_Mo_px z_Mo_px e_Mo_px) (h_Mo_tail : ct_ok l D kA GG y_Mo_tail z_Mo_tail e_Mo_tail) : ct_ok l D kA GG y_Mo_ex z_Mo_ex e_Mo_ex := chk_all_ok (FT := [(132, 13, 65), (1020, 13, 139)]) (PT := []) (CT := t_Mo_ex_ct) (KT := []) (NT := []) (AN := n_Mo_ex_an) (OT := [o_Mo_ex_0]) 0 200 (List.forall_mem_cons.mpr ⟨oo_Mo_ex_0, List.forall_mem_nil _⟩) (by decide +kernel) ⟨List.forall_mem_cons.mpr ⟨gf_Mo_132, List.forall_mem_cons.mpr ⟨gf_Mo_1020, List.forall_mem_nil _⟩⟩, List.forall_mem_nil _, List.forall_mem_cons.mpr ⟨cl_virtual (y := y_Mo_tail) (ci := 13) rfl rfl ⟨_, _, rfl⟩ (by decide +kernel) h_Mo_tail wm_3045 wm_9 wm_3042 wm_3044 wv_13_8 ⟨by decide, by decide, by decide +kernel⟩ (by decide), List.forall_mem_cons.mpr ⟨cl_virtual (y := y_Mo_head) (ci := 13) rfl rfl ⟨_, _, rfl⟩ (by decide +kernel) h_Mo_head wm_3049 wm_9 wm_3046 wm_3048 wv_13_9 ⟨by decide, by decide, by decide +kernel⟩ (by decide), List.forall_mem_cons.mpr ⟨cl_virtual (y := y_Mo_px) (ci := 13) rfl rfl ⟨_, _, rfl⟩ (by decide +kernel) h_Mo_px wm_3675 wm_9 wm_3672 wm_3674 wv_21_14 ⟨by decide, by decide, by decide +kernel⟩ (by decide), List.forall_mem_cons.mpr ⟨cl_virtual (y := y_Mo_pointsOf) (ci := 13) rfl rfl ⟨_, _, rfl⟩ (by decide +kernel) h_Mo_pointsOf wm_3726 wm_9 wm_3723 wm_3725 wv_22_8 ⟨by decide, by decide, by decide +kernel⟩ (by decide), List.forall_mem_nil _⟩⟩⟩⟩, List.forall_mem_nil _, List.forall_mem_nil _, GG_pl⟩ (by decide +kernel)
def o_Mo_ey_0 : or_T := (59, 16, [(0, (2, 0, 0, [150])), (1, (0, 0, 47, [])), (2, (0, 1, 25, [])), (3, (0, 2, 26, [])), (4, (0, 1, 1, [])), (5, (0, 1, 25, [])), (7, (0, 24, 24, [])), (8, (0, 48, 48, [])), (9, (0, 0, 3, [])), (10, (0, 0, 144, [])), (11, (0, 0, 191, [])), (12, (0, 0, 4584, [])), (13, (0, 1, 4609, [])), (14, (0, 1, 1, [])), (15, (0, 0, 4608, []))], [(2, [15, 13, 14], []), (1, [13, 12, 2], []), (3, [12, 7, 11], []), (1, [11, 10, 1], []), (3, [10, 8, 9], []), (9, [9, 0], [139]), (7, [2, 5], [1]), (2, [5, 3, 4], []), (20, [3, 0, 1], [50, 1, 1, 1139, 1064, 1, 2, 1, 0, 4, 14, 3, 1, 64, 4, 7, 6, 2, 0, 48, 2, 1, 139, 1, 2, 0, 2]), (8, [2], [1]), (20, [2, 0, 1], [50, 1, 1, 1139, 1064, 0, 2, 1, 0, 4, 14, 3, 1, 64, 4, 7, 6, 2, 0, 48, 2, 1, 139, 1, 2, 0, 1])], [(15, (0, 0, 4607, []))], [], [], [], [(15, 13, -1, -1), (15, 2, -1, 4583), (15, 12, 0, 24), (13, 2, 0, 4584), (13, 12, 1, 25), (11, 1, 0, 144), (11, 10, 0, 47), (5, 3, -1, -1)])
theorem oo_Mo_ey_0 {kA : Nat → ClassId} : or_ok kA GG o_Mo_ey_0 := by
  intro A ta ws vs hD hth hl hk hds hf
  have hl : vs.length = 16 := hl
  have hk : ∀ q ∈ ([(0, (2, 0, 0, [150])), (1, (0, 0, 47, [])), (2, (0, 1, 25, [])), (3, (0, 2, 26, [])), (4, (0, 1, 1, [])), (5, (0, 1, 25, [])), (7, (0, 24, 24, [])), (8, (0, 48, 48, [])), (9, (0, 0, 3, [])), (10, (0, 0, 144, [])), (11, (0, 0, 191, [])), (12, (0, 0, 4584, [])), (13, (0, 1, 4609, [])), (14, (0, 1, 1, [])), (15, (0, 0, 4608, []))] : List (Nat × tv_T)), tv_ok ta q.2 (n_v vs q.1) := hk
  obtain ⟨t0, hk⟩ := List.forall_mem_cons.mp hk
  have t0 : tv_ok ta (2, 0, 0, [150]) (n_v vs 0) := t0
  have r0 : ta (v_ad (n_v vs 0)) = some 150 := tv_rg t0
  obtain ⟨t1, hk⟩ := List.forall_mem_cons.mp hk
  have t1 : tv_ok ta (0, 0, 47, []) (n_v vs 1) := t1
  have k1 : 0 ≤ v_iv (n_v vs 1) ∧ v_iv (n_v vs 1) ≤ 47 := tv_rng t1
  obtain ⟨t2, hk⟩ := List.forall_mem_cons.mp hk
  have t2 : tv_ok ta (0, 1, 25, []) (n_v vs 2) := t2
  have k2 : 1 ≤ v_iv (n_v vs 2) ∧ v_iv (n_v vs 2) ≤ 25 := tv_rng t2
  obtain ⟨t3, hk⟩ := List.forall_mem_cons.mp hk
  have t3 : tv_ok ta (0, 2, 26, []) (n_v vs 3) := t3
  have k3 : 2 ≤ v_iv (n_v vs 3) ∧ v_iv (n_v vs 3) ≤ 26 := tv_rng t3
  obtain ⟨t4, hk⟩ := List.forall_mem_cons.mp hk
  have t4 : tv_ok ta (0, 1, 1, []) (n_v vs 4) := t4
  have k4 : 1 ≤ v_iv (n_v vs 4) ∧ v_iv (n_v vs 4) ≤ 1 := tv_rng t4
  obtain ⟨t5, hk⟩ := List.forall_mem_cons.mp hk
  have t5 : tv_ok ta (0, 1, 25, []) (n_v vs 5) := t5
  have k5 : 1 ≤ v_iv (n_v vs 5) ∧ v_iv (n_v vs 5) ≤ 25 := tv_rng t5
  obtain ⟨t7, hk⟩ := List.forall_mem_cons.mp hk
  have t7 : tv_ok ta (0, 24, 24, []) (n_v vs 7) := t7
  have k7 : 24 ≤ v_iv (n_v vs 7) ∧ v_iv (n_v vs 7) ≤ 24 := tv_rng t7
  obtain ⟨t8, hk⟩ := List.forall_mem_cons.mp hk
  have t8 : tv_ok ta (0, 48, 48, []) (n_v vs 8) := t8
  have k8 : 48 ≤ v_iv (n_v vs 8) ∧ v_iv (n_v vs 8) ≤ 48 := tv_rng t8
  obtain ⟨t9, hk⟩ := List.forall_mem_cons.mp hk
  have t9 : tv_ok ta (0, 0, 3, []) (n_v vs 9) := t9
  have k9 : 0 ≤ v_iv (n_v vs 9) ∧ v_iv (n_v vs 9) ≤ 3 := tv_rng t9
  obtain ⟨t10, hk⟩ := List.forall_mem_cons.mp hk
  have t10 : tv_ok ta (0, 0, 144, []) (n_v vs 10) := t10
  have k10 : 0 ≤ v_iv (n_v vs 10) ∧ v_iv (n_v vs 10) ≤ 144 := tv_rng t10
  obtain ⟨t11, hk⟩ := List.forall_mem_cons.mp hk
  have t11 : tv_ok ta (0, 0, 191, []) (n_v vs 11) := t11
  have k11 : 0 ≤ v_iv (n_v vs 11) ∧ v_iv (n_v vs 11) ≤ 191 := tv_rng t11
  obtain ⟨t12, hk⟩ := List.forall_mem_cons.mp hk
  have t12 : tv_ok ta (0, 0, 4584, []) (n_v vs 12) := t12
  have k12 : 0 ≤ v_iv (n_v vs 12) ∧ v_iv (n_v vs 12) ≤ 4584 := tv_rng t12
  obtain ⟨t13, hk⟩ := List.forall_mem_cons.mp hk
  have t13 : tv_ok ta (0, 1, 4609, []) (n_v vs 13) := t13
  have k13 : 1 ≤ v_iv (n_v vs 13) ∧ v_iv (n_v vs 13) ≤ 4609 := tv_rng t13
  obtain ⟨t14, hk⟩ := List.forall_mem_cons.mp hk
  have t14 : tv_ok ta (0, 1, 1, []) (n_v vs 14) := t14
  have k14 : 1 ≤ v_iv (n_v vs 14) ∧ v_iv (n_v vs 14) ≤ 1 := tv_rng t14
  obtain ⟨t15, hk⟩ := List.forall_mem_cons.mp hk
  have t15 : tv_ok ta (0, 0, 4608, []) (n_v vs 15) := t15
  have k15 : 0 ≤ v_iv (n_v vs 15) ∧ v_iv (n_v vs 15) ≤ 4608 := tv_rng t15
  have hds : ∀ q ∈ ([(15, 13, -1, -1), (15, 2, -1, 4583), (15, 12, 0, 24), (13, 2, 0, 4584), (13, 12, 1, 25), (11, 1, 0, 144), (11, 10, 0, 47), (5, 3, -1, -1)] : List of_T), n_iv vs q.2.1 + q.2.2.1 ≤ n_iv vs q.1 ∧ n_iv vs q.1 ≤ n_iv vs q.2.1 + q.2.2.2 := hds
  obtain ⟨d0, hds⟩ := List.forall_mem_cons.mp hds
  have d0 : v_iv (n_v vs 13) + (-1) ≤ v_iv (n_v vs 15) ∧ v_iv (n_v vs 15) ≤ v_iv (n_v vs 13) + (-1) := d0
  obtain ⟨d1, hds⟩ := List.forall_mem_cons.mp hds
  have d1 : v_iv (n_v vs 2) + (-1) ≤ v_iv (n_v vs 15) ∧ v_iv (n_v vs 15) ≤ v_iv (n_v vs 2) + 4583 := d1
  obtain ⟨d2, hds⟩ := List.forall_mem_cons.mp hds
  have d2 : v_iv (n_v vs 12) + 0 ≤ v_iv (n_v vs 15) ∧ v_iv (n_v vs 15) ≤ v_iv (n_v vs 12) + 24 := d2
  obtain ⟨d3, hds⟩ := List.forall_mem_cons.mp hds
  have d3 : v_iv (n_v vs 2) + 0 ≤ v_iv (n_v vs 13) ∧ v_iv (n_v vs 13) ≤ v_iv (n_v vs 2) + 4584 := d3
  obtain ⟨d4, hds⟩ := List.forall_mem_cons.mp hds
  have d4 : v_iv (n_v vs 12) + 1 ≤ v_iv (n_v vs 13) ∧ v_iv (n_v vs 13) ≤ v_iv (n_v vs 12) + 25 := d4
  obtain ⟨d5, hds⟩ := List.forall_mem_cons.mp hds
  have d5 : v_iv (n_v vs 1) + 0 ≤ v_iv (n_v vs 11) ∧ v_iv (n_v vs 11) ≤ v_iv (n_v vs 1) + 144 := d5
  obtain ⟨d6, hds⟩ := List.forall_mem_cons.mp hds
  have d6 : v_iv (n_v vs 10) + 0 ≤ v_iv (n_v vs 11) ∧ v_iv (n_v vs 11) ≤ v_iv (n_v vs 10) + 47 := d6
  obtain ⟨d7, hds⟩ := List.forall_mem_cons.mp hds
  have d7 : v_iv (n_v vs 3) + (-1) ≤ v_iv (n_v vs 5) ∧ v_iv (n_v vs 5) ≤ v_iv (n_v vs 3) + (-1) := d7
  have hf : fc_ok [(2, [15, 13, 14], []), (1, [13, 12, 2], []), (3, [12, 7, 11], []), (1, [11, 10, 1], []), (3, [10, 8, 9], []), (9, [9, 0], [139]), (7, [2, 5], [1]), (2, [5, 3, 4], []), (20, [3, 0, 1], [50, 1, 1, 1139, 1064, 1, 2, 1, 0, 4, 14, 3, 1, 64, 4, 7, 6, 2, 0, 48, 2, 1, 139, 1, 2, 0, 2]), (8, [2], [1]), (20, [2, 0, 1], [50, 1, 1, 1139, 1064, 0, 2, 1, 0, 4, 14, 3, 1, 64, 4, 7, 6, 2, 0, 48, 2, 1, 139, 1, 2, 0, 1])] ta ws vs := hf
  obtain ⟨f0, hf⟩ := fc_un (show (2 : Nat) < 100 from by decide) hf
  have f0 : v_iv (n_v vs 15) = v_iv (n_v vs 13) - v_iv (n_v vs 14) := f0
  obtain ⟨f1, hf⟩ := fc_un (show (1 : Nat) < 100 from by decide) hf
  have f1 : v_iv (n_v vs 13) = v_iv (n_v vs 12) + v_iv (n_v vs 2) := f1
  obtain ⟨f2, hf⟩ := fc_un (show (3 : Nat) < 100 from by decide) hf
  have f2 : v_iv (n_v vs 12) = v_iv (n_v vs 7) * v_iv (n_v vs 11) := f2
  rw [show v_iv (n_v vs 7) = 24 from by omega] at f2
  obtain ⟨f3, hf⟩ := fc_un (show (1 : Nat) < 100 from by decide) hf
  have f3 : v_iv (n_v vs 11) = v_iv (n_v vs 10) + v_iv (n_v vs 1) := f3
  obtain ⟨f4, hf⟩ := fc_un (show (3 : Nat) < 100 from by decide) hf
  have f4 : v_iv (n_v vs 10) = v_iv (n_v vs 8) * v_iv (n_v vs 9) := f4
  rw [show v_iv (n_v vs 8) = 48 from by omega] at f4
  obtain ⟨f5, hf⟩ := fc_un (show (9 : Nat) < 100 from by decide) hf
  have f5 : n_v vs 9 = w_fd ws (v_ad (n_v vs 0)) 139 := f5
  obtain ⟨f6, hf⟩ := fc_un (show (7 : Nat) < 100 from by decide) hf
  have f6 : v_iv (n_v vs 2) ≠ v_iv (n_v vs 5) := f6
  obtain ⟨f7, hf⟩ := fc_un (show (2 : Nat) < 100 from by decide) hf
  have f7 : v_iv (n_v vs 5) = v_iv (n_v vs 3) - v_iv (n_v vs 4) := f7
  obtain ⟨f8, hf⟩ := fc_un (show (20 : Nat) < 100 from by decide) hf
  have f8 : v_iv (n_v vs 3) = (w_ei ws (w_ar ws (n_v vs 0) 64) (((48 * w_fi ws (n_v vs 0) 139) + v_iv (n_v vs 1))) + 2) := f8
  obtain ⟨f9, hf⟩ := fc_un (show (8 : Nat) < 100 from by decide) hf
  have f9 : v_iv (n_v vs 2) ≠ 0 := f9
  obtain ⟨f10, hf⟩ := fc_un (show (20 : Nat) < 100 from by decide) hf
  have f10 : v_iv (n_v vs 2) ≤ (w_ei ws (w_ar ws (n_v vs 0) 64) (((48 * w_fi ws (n_v vs 0) 139) + v_iv (n_v vs 1))) + 1) := f10
  have cr_0_64 : ta (w_ar ws (n_v vs 0) 64) = some 189 := tv_rg (th_fd hD hth r0 (g := GG_150) rfl (k := 64) (t := (2, 0, 0, [189])) rfl rfl)
  have g5 : v_iv (n_v vs 9) = w_fi ws (n_v vs 0) 139 := congrArg v_iv f5
  have hK_0_64 : ∀ j : Int, 0 ≤ j → j < 192 → 0 ≤ w_ei ws (w_ar ws (n_v vs 0) 64) j ∧ w_ei ws (w_ar ws (n_v vs 0) 64) j ≤ 24 := fun j h0 h1 => th_el hD hth cr_0_64 (kd := 0) (n := 192) (m := 192) (lo := 0) (hi := 24) (rs := []) (L := []) rfl (by decide) (j := j.toNat) (by omega)
  have kz_0_139 : 0 ≤ w_fi ws (n_v vs 0) 139 ∧ w_fi ws (n_v vs 0) 139 ≤ 3 := tv_rng (th_fd hD hth r0 (g := GG_150) rfl (k := 139) (t := (0, 0, 3, [])) rfl rfl)
  have rf15 : tv_ok ta (0, 0, 4607, []) (n_v vs 15) := tv_in t15 (by first | omega | grind) (by first | omega | grind)
  refine ⟨List.forall_mem_cons.mpr ⟨rf15, (fun _ h => (by cases h))⟩, [], trivial, ?_, (fun _ h => (by cases h))⟩
  rw [List.append_nil]
  exact (fun _ h => (by cases h))
def n_Mo_ey_an : List an_T := []
def t_Mo_ey_ct : ct_L := [(1, 394, e_Mo_tail), (1, 398, e_Mo_head), (1, 1026, e_Mo_pointsOf), (1, 1029, e_Mo_py)]
set_option maxRecDepth 100000 in
theorem c_Mo_ey {l : Launch} {D : va_G} {kA : Nat → ClassId} (h_Mo_head : ct_ok l D kA GG y_Mo_head z_Mo_head e_Mo_head) (h_Mo_pointsOf : ct_ok l D kA GG y_Mo_pointsOf z_Mo_pointsOf e_Mo_pointsOf) (h_Mo_py : ct_ok l D kA GG y_Mo_py z_Mo_py e_Mo_py) (h_Mo_tail : ct_ok l D kA GG y_Mo_tail z_Mo_tail e_Mo_tail) : ct_ok l D kA GG y_Mo_ey z_Mo_ey e_Mo_ey := chk_all_ok (FT := [(135, 13, 66), (1020, 13, 139)]) (PT := []) (CT := t_Mo_ey_ct) (KT := []) (NT := []) (AN := n_Mo_ey_an) (OT := [o_Mo_ey_0]) 0 200 (List.forall_mem_cons.mpr ⟨oo_Mo_ey_0, List.forall_mem_nil _⟩) (by decide +kernel) ⟨List.forall_mem_cons.mpr ⟨gf_Mo_135, List.forall_mem_cons.mpr ⟨gf_Mo_1020, List.forall_mem_nil _⟩⟩, List.forall_mem_nil _, List.forall_mem_cons.mpr ⟨cl_virtual (y := y_Mo_tail) (ci := 13) rfl rfl ⟨_, _, rfl⟩ (by decide +kernel) h_Mo_tail wm_3045 wm_9 wm_3042 wm_3044 wv_13_8 ⟨by decide, by decide, by decide +kernel⟩ (by decide), List.forall_mem_cons.mpr ⟨cl_virtual (y := y_Mo_head) (ci := 13) rfl rfl ⟨_, _, rfl⟩ (by decide +kernel) h_Mo_head wm_3049 wm_9 wm_3046 wm_3048 wv_13_9 ⟨by decide, by decide, by decide +kernel⟩ (by decide), List.forall_mem_cons.mpr ⟨cl_virtual (y := y_Mo_pointsOf) (ci := 13) rfl rfl ⟨_, _, rfl⟩ (by decide +kernel) h_Mo_pointsOf wm_3726 wm_9 wm_3723 wm_3725 wv_22_8 ⟨by decide, by decide, by decide +kernel⟩ (by decide), List.forall_mem_cons.mpr ⟨cl_virtual (y := y_Mo_py) (ci := 13) rfl rfl ⟨_, _, rfl⟩ (by decide +kernel) h_Mo_py wm_3679 wm_9 wm_3676 wm_3678 wv_21_15 ⟨by decide, by decide, by decide +kernel⟩ (by decide), List.forall_mem_nil _⟩⟩⟩⟩, List.forall_mem_nil _, List.forall_mem_nil _, GG_pl⟩ (by decide +kernel)
