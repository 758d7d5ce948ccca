def o_Mo_flood_0 : or_T := (34, 6, [(0, (2, 0, 0, [139])), (5, (0, 1, 1, []))], [], [], [(0, 0, 53, [])], [(20, [6, 0, 5], [1, 38, 26, 52, -2])], [])
theorem oo_Mo_flood_0 {kA : Nat → ClassId} : or_ok kA GG o_Mo_flood_0 := by
  intro A ta ws vs hD hth hl hk hf
  have hl : vs.length = 6 := hl
  have hk : ∀ q ∈ ([(0, (2, 0, 0, [139])), (5, (0, 1, 1, []))] : List (Nat × tv_T)), tv_ok ta q.2 (n_v vs q.1) := hk
  obtain ⟨t0, hk⟩ := List.forall_mem_cons.mp hk
  have t0 : tv_ok ta (2, 0, 0, [139]) (n_v vs 0) := t0
  have r0 : ta (v_ad (n_v vs 0)) = some 139 := tv_rg t0
  obtain ⟨t5, hk⟩ := List.forall_mem_cons.mp hk
  have t5 : tv_ok ta (0, 1, 1, []) (n_v vs 5) := t5
  have k5 : 1 ≤ v_iv (n_v vs 5) ∧ v_iv (n_v vs 5) ≤ 1 := tv_rng t5
  have ra : ta (w_ar ws (n_v vs 0) 38) = some 159 := tv_rg (th_fd hD hth r0 (g := GG_139) rfl (k := 38) (t := (2, 0, 0, [159])) rfl rfl)
  have bs := sum_bd (ws := ws) (a := w_ar ws (n_v vs 0) 38) (lo := 0) (hi := 1) (n := 26) (fun j hj => th_el hD hth ra (kd := 2) (n := 26) (m := 26) (rs := []) (L := []) rfl (by decide) (by omega))
  obtain ⟨x, ex, hx⟩ := iv_ex (ta := ta) (lo := 0) (hi := 53) (z := 52 + (-2) * w_sum ws (w_ar ws (n_v vs 0) 38) 26 + v_iv (n_v vs 5)) (by omega) (by omega) (by decide) (by decide)
  have ex2 : v_iv (Value.int x) = 52 + (-2) * w_sum ws (w_ar ws (n_v vs 0) 38) 26 + v_iv (n_v vs 5) := ex
  have e_0 : n_v (vs ++ [Value.int x]) 0 = n_v vs 0 := n_v_old (by rw [hl]; decide)
  have e_5 : n_v (vs ++ [Value.int x]) 5 = n_v vs 5 := n_v_old (by rw [hl]; decide)
  have e_6 : n_v (vs ++ [Value.int x]) 6 = Value.int x := n_v_new hl
  have nf0 : fc_1 (20, [6, 0, 5], [1, 38, 26, 52, -2]) ws (vs ++ [Value.int x]) := by
    refine ⟨fun n hn => ?_, ?_⟩
    · have hn : n ∈ [6, 0, 5] := hn
      rw [List.length_append, hl]
      simp only [List.mem_cons, List.not_mem_nil, or_false] at hn
      show n < 6 + 1; omega
    · show v_iv (n_v (vs ++ [Value.int x]) 6) = 52 + (-2) * w_sum ws (w_ar ws (n_v (vs ++ [Value.int x]) 0) 38) 26 + v_iv (n_v (vs ++ [Value.int x]) 5)
      rw [e_0]
      rw [e_5]
      rw [e_6]
      omega
  exact ⟨fun q hq => (by cases hq), [Value.int x], ag_one hx, List.forall_mem_cons.mpr ⟨⟨by decide, nf0⟩, fun _ h => by cases h⟩, fun _ h => by cases h⟩
def o_Mo_flood_1 : or_T := (43, 7, [(0, (2, 0, 0, [139])), (3, (0, 1, 1, [])), (4, (0, 0, 53, [])), (5, (0, 0, 0, []))], [(20, [4, 0, 3], [1, 38, 26, 52, -2])], [], [(0, 0, 53, [])], [(20, [7, 0, 5], [2, 38, 26, 52, -2])], [(7, 4, 0, 0)])
theorem oo_Mo_flood_1 {kA : Nat → ClassId} : or_ok kA GG o_Mo_flood_1 := by
  intro A ta ws vs hD hth hl hk hf
  have hl : vs.length = 7 := hl
  have hk : ∀ q ∈ ([(0, (2, 0, 0, [139])), (3, (0, 1, 1, [])), (4, (0, 0, 53, [])), (5, (0, 0, 0, []))] : List (Nat × tv_T)), tv_ok ta q.2 (n_v vs q.1) := hk
  obtain ⟨t0, hk⟩ := List.forall_mem_cons.mp hk
  have t0 : tv_ok ta (2, 0, 0, [139]) (n_v vs 0) := t0
  have r0 : ta (v_ad (n_v vs 0)) = some 139 := tv_rg t0
  obtain ⟨t3, hk⟩ := List.forall_mem_cons.mp hk
  have t3 : tv_ok ta (0, 1, 1, []) (n_v vs 3) := t3
  have k3 : 1 ≤ v_iv (n_v vs 3) ∧ v_iv (n_v vs 3) ≤ 1 := tv_rng t3
  obtain ⟨t4, hk⟩ := List.forall_mem_cons.mp hk
  have t4 : tv_ok ta (0, 0, 53, []) (n_v vs 4) := t4
  have k4 : 0 ≤ v_iv (n_v vs 4) ∧ v_iv (n_v vs 4) ≤ 53 := tv_rng t4
  obtain ⟨t5, hk⟩ := List.forall_mem_cons.mp hk
  have t5 : tv_ok ta (0, 0, 0, []) (n_v vs 5) := t5
  have k5 : 0 ≤ v_iv (n_v vs 5) ∧ v_iv (n_v vs 5) ≤ 0 := tv_rng t5
  have hf : fc_ok [(20, [4, 0, 3], [1, 38, 26, 52, -2])] ta ws vs := hf
  obtain ⟨f0, hf⟩ := fc_un (by decide) hf
  have f0 : v_iv (n_v vs 4) = 52 + (-2) * w_sum ws (w_ar ws (n_v vs 0) 38) 26 + v_iv (n_v vs 3) := f0
  have key : 52 + (-2) * w_sum ws (w_ar ws (n_v vs 0) 38) 26 + v_iv (n_v vs 5) + 1 ≤ v_iv (n_v vs 4) := by omega
  obtain ⟨x, ex, hx⟩ := iv_ex (ta := ta) (lo := 0) (hi := 53) (z := v_iv (n_v vs 4)) (by omega) (by omega) (by decide) (by decide)
  have ex2 : v_iv (Value.int x) = v_iv (n_v vs 4) := ex
  have e_0 : n_v (vs ++ [Value.int x]) 0 = n_v vs 0 := n_v_old (by rw [hl]; decide)
  have e_5 : n_v (vs ++ [Value.int x]) 5 = n_v vs 5 := n_v_old (by rw [hl]; decide)
  have e_7 : n_v (vs ++ [Value.int x]) 7 = Value.int x := n_v_new hl
  have nf0 : fc_1 (20, [7, 0, 5], [2, 38, 26, 52, -2]) ws (vs ++ [Value.int x]) := by
    refine ⟨fun n hn => ?_, ?_⟩
    · have hn : n ∈ [7, 0, 5] := hn
      rw [List.length_append, hl]
      simp only [List.mem_cons, List.not_mem_nil, or_false] at hn
      show n < 7 + 1; omega
    · show 52 + (-2) * w_sum ws (w_ar ws (n_v (vs ++ [Value.int x]) 0) 38) 26 + v_iv (n_v (vs ++ [Value.int x]) 5) + 1 ≤ v_iv (n_v (vs ++ [Value.int x]) 7)
      rw [e_0]
      rw [e_5]
      rw [e_7]
      omega
  obtain ⟨x0, e0, _, _⟩ := tv_int t4 rfl
  have e1 : v_iv (n_v vs 4) = x0.toInt := by rw [e0]; rfl
  have ho : sy_ofs (vs ++ [Value.int x]) (7, 4, 0, 0) := by
    refine ⟨x, x0, by rw [List.getElem?_append_right (by rw [hl]; decide), hl]; rfl, ?_, ?_, ?_⟩
    · rw [List.getElem?_append_left (by rw [hl]; decide)]; exact n_v_some (by rw [hl]; decide) e0
    · show x0.toInt + 0 ≤ x.toInt; omega
    · show x.toInt ≤ x0.toInt + 0; omega
  exact ⟨fun q hq => (by cases hq), [Value.int x], ag_one hx, List.forall_mem_cons.mpr ⟨⟨by decide, nf0⟩, fun _ h => by cases h⟩, List.forall_mem_cons.mpr ⟨ho, fun _ h => by cases h⟩⟩
def o_Mo_flood_2 : or_T := (34, 7, [(0, (2, 0, 0, [139])), (3, (0, 0, 1, [])), (5, (0, 0, 53, []))], [(20, [5, 0, 3], [2, 38, 26, 52, -2])], [], [(0, 0, 53, [])], [(20, [7, 0, 3], [1, 38, 26, 52, -2])], [(7, 5, -1000000000000, -1)])
theorem oo_Mo_flood_2 {kA : Nat → ClassId} : or_ok kA GG o_Mo_flood_2 := by
  intro A ta ws vs hD hth hl hk hf
  have hl : vs.length = 7 := hl
  have hk : ∀ q ∈ ([(0, (2, 0, 0, [139])), (3, (0, 0, 1, [])), (5, (0, 0, 53, []))] : List (Nat × tv_T)), tv_ok ta q.2 (n_v vs q.1) := hk
  obtain ⟨t0, hk⟩ := List.forall_mem_cons.mp hk
  have t0 : tv_ok ta (2, 0, 0, [139]) (n_v vs 0) := t0
  have r0 : ta (v_ad (n_v vs 0)) = some 139 := tv_rg t0
  obtain ⟨t3, hk⟩ := List.forall_mem_cons.mp hk
  have t3 : tv_ok ta (0, 0, 1, []) (n_v vs 3) := t3
  have k3 : 0 ≤ v_iv (n_v vs 3) ∧ v_iv (n_v vs 3) ≤ 1 := tv_rng t3
  obtain ⟨t5, hk⟩ := List.forall_mem_cons.mp hk
  have t5 : tv_ok ta (0, 0, 53, []) (n_v vs 5) := t5
  have k5 : 0 ≤ v_iv (n_v vs 5) ∧ v_iv (n_v vs 5) ≤ 53 := tv_rng t5
  have hf : fc_ok [(20, [5, 0, 3], [2, 38, 26, 52, -2])] ta ws vs := hf
  obtain ⟨f0, hf⟩ := fc_un (by decide) hf
  have f0 : 52 + (-2) * w_sum ws (w_ar ws (n_v vs 0) 38) 26 + v_iv (n_v vs 3) + 1 ≤ v_iv (n_v vs 5) := f0
  have ra : ta (w_ar ws (n_v vs 0) 38) = some 159 := tv_rg (th_fd hD hth r0 (g := GG_139) rfl (k := 38) (t := (2, 0, 0, [159])) rfl rfl)
  have bs := sum_bd (ws := ws) (a := w_ar ws (n_v vs 0) 38) (lo := 0) (hi := 1) (n := 26) (fun j hj => th_el hD hth ra (kd := 2) (n := 26) (m := 26) (rs := []) (L := []) rfl (by decide) (by omega))
  obtain ⟨x, ex, hx⟩ := iv_ex (ta := ta) (lo := 0) (hi := 53) (z := 52 + (-2) * w_sum ws (w_ar ws (n_v vs 0) 38) 26 + v_iv (n_v vs 3)) (by omega) (by omega) (by decide) (by decide)
  have ex2 : v_iv (Value.int x) = 52 + (-2) * w_sum ws (w_ar ws (n_v vs 0) 38) 26 + v_iv (n_v vs 3) := ex
  have e_0 : n_v (vs ++ [Value.int x]) 0 = n_v vs 0 := n_v_old (by rw [hl]; decide)
  have e_3 : n_v (vs ++ [Value.int x]) 3 = n_v vs 3 := n_v_old (by rw [hl]; decide)
  have e_7 : n_v (vs ++ [Value.int x]) 7 = Value.int x := n_v_new hl
  have nf0 : fc_1 (20, [7, 0, 3], [1, 38, 26, 52, -2]) ws (vs ++ [Value.int x]) := by
    refine ⟨fun n hn => ?_, ?_⟩
    · have hn : n ∈ [7, 0, 3] := hn
      rw [List.length_append, hl]
      simp only [List.mem_cons, List.not_mem_nil, or_false] at hn
      show n < 7 + 1; omega
    · show v_iv (n_v (vs ++ [Value.int x]) 7) = 52 + (-2) * w_sum ws (w_ar ws (n_v (vs ++ [Value.int x]) 0) 38) 26 + v_iv (n_v (vs ++ [Value.int x]) 3)
      rw [e_0]
      rw [e_3]
      rw [e_7]
      omega
  obtain ⟨x0, e0, _, _⟩ := tv_int t5 rfl
  have e1 : v_iv (n_v vs 5) = x0.toInt := by rw [e0]; rfl
  have ho : sy_ofs (vs ++ [Value.int x]) (7, 5, -1000000000000, -1) := by
    refine ⟨x, x0, by rw [List.getElem?_append_right (by rw [hl]; decide), hl]; rfl, ?_, ?_, ?_⟩
    · rw [List.getElem?_append_left (by rw [hl]; decide)]; exact n_v_some (by rw [hl]; decide) e0
    · show x0.toInt + (-1000000000000) ≤ x.toInt; omega
    · show x.toInt ≤ x0.toInt + (-1); omega
  exact ⟨fun q hq => (by cases hq), [Value.int x], ag_one hx, List.forall_mem_cons.mpr ⟨⟨by decide, nf0⟩, fun _ h => by cases h⟩, List.forall_mem_cons.mpr ⟨ho, fun _ h => by cases h⟩⟩
def o_Mo_flood_3 : or_T := (43, 24, [(0, (2, 0, 0, [139])), (3, (0, 0, 1, [])), (4, (0, 0, 79, [])), (5, (0, 0, 53, [])), (9, (2, 0, 0, [154])), (11, (2, 0, 0, [155])), (13, (2, 0, 0, [159])), (14, (0, 0, 24, [])), (15, (0, 0, 1, [])), (16, (0, 0, 24, [])), (17, (0, 0, 1, [])), (18, (0, 0, 24, [])), (19, (0, 1, 1, [])), (20, (0, 0, 24, [])), (21, (0, 1, 1, [])), (22, (0, 1, 1, []))], [(100, [13, 20, 21], []), (10, [20, 11, 4], []), (9, [11, 0], [34]), (9, [13, 0], [38]), (100, [13, 18, 19], []), (10, [18, 9, 4], []), (9, [9, 0], [33]), (9, [13, 0], [38]), (7, [15, 17], [1]), (10, [17, 13, 16], []), (10, [16, 11, 4], []), (9, [11, 0], [34]), (9, [13, 0], [38]), (10, [15, 13, 14], []), (10, [14, 9, 4], []), (9, [9, 0], [33]), (9, [13, 0], [38]), (9, [11, 0], [34]), (9, [9, 0], [33]), (20, [5, 0, 3], [2, 38, 26, 52, -2])], [], [], [(20, [5, 0, 22], [2, 38, 26, 52, -2])], [])
theorem oo_Mo_flood_3 {kA : Nat → ClassId} : or_ok kA GG o_Mo_flood_3 := by
  intro A ta ws vs hD hth hl hk hf
  have hl : vs.length = 24 := hl
  have hk : ∀ q ∈ ([(0, (2, 0, 0, [139])), (3, (0, 0, 1, [])), (4, (0, 0, 79, [])), (5, (0, 0, 53, [])), (9, (2, 0, 0, [154])), (11, (2, 0, 0, [155])), (13, (2, 0, 0, [159])), (14, (0, 0, 24, [])), (15, (0, 0, 1, [])), (16, (0, 0, 24, [])), (17, (0, 0, 1, [])), (18, (0, 0, 24, [])), (19, (0, 1, 1, [])), (20, (0, 0, 24, [])), (21, (0, 1, 1, [])), (22, (0, 1, 1, []))] : List (Nat × tv_T)), tv_ok ta q.2 (n_v vs q.1) := hk
  obtain ⟨t0, hk⟩ := List.forall_mem_cons.mp hk
  have t0 : tv_ok ta (2, 0, 0, [139]) (n_v vs 0) := t0
  have r0 : ta (v_ad (n_v vs 0)) = some 139 := tv_rg t0
  obtain ⟨t3, hk⟩ := List.forall_mem_cons.mp hk
  have t3 : tv_ok ta (0, 0, 1, []) (n_v vs 3) := t3
  have k3 : 0 ≤ v_iv (n_v vs 3) ∧ v_iv (n_v vs 3) ≤ 1 := tv_rng t3
  obtain ⟨t4, hk⟩ := List.forall_mem_cons.mp hk
  have t4 : tv_ok ta (0, 0, 79, []) (n_v vs 4) := t4
  have k4 : 0 ≤ v_iv (n_v vs 4) ∧ v_iv (n_v vs 4) ≤ 79 := tv_rng t4
  obtain ⟨t5, hk⟩ := List.forall_mem_cons.mp hk
  have t5 : tv_ok ta (0, 0, 53, []) (n_v vs 5) := t5
  have k5 : 0 ≤ v_iv (n_v vs 5) ∧ v_iv (n_v vs 5) ≤ 53 := tv_rng t5
  obtain ⟨t9, hk⟩ := List.forall_mem_cons.mp hk
  have t9 : tv_ok ta (2, 0, 0, [154]) (n_v vs 9) := t9
  have r9 : ta (v_ad (n_v vs 9)) = some 154 := tv_rg t9
  obtain ⟨t11, hk⟩ := List.forall_mem_cons.mp hk
  have t11 : tv_ok ta (2, 0, 0, [155]) (n_v vs 11) := t11
  have r11 : ta (v_ad (n_v vs 11)) = some 155 := tv_rg t11
  obtain ⟨t13, hk⟩ := List.forall_mem_cons.mp hk
  have t13 : tv_ok ta (2, 0, 0, [159]) (n_v vs 13) := t13
  have r13 : ta (v_ad (n_v vs 13)) = some 159 := tv_rg t13
  obtain ⟨t14, hk⟩ := List.forall_mem_cons.mp hk
  have t14 : tv_ok ta (0, 0, 24, []) (n_v vs 14) := t14
  have k14 : 0 ≤ v_iv (n_v vs 14) ∧ v_iv (n_v vs 14) ≤ 24 := tv_rng t14
  obtain ⟨t15, hk⟩ := List.forall_mem_cons.mp hk
  have t15 : tv_ok ta (0, 0, 1, []) (n_v vs 15) := t15
  have k15 : 0 ≤ v_iv (n_v vs 15) ∧ v_iv (n_v vs 15) ≤ 1 := tv_rng t15
  obtain ⟨t16, hk⟩ := List.forall_mem_cons.mp hk
  have t16 : tv_ok ta (0, 0, 24, []) (n_v vs 16) := t16
  have k16 : 0 ≤ v_iv (n_v vs 16) ∧ v_iv (n_v vs 16) ≤ 24 := tv_rng t16
  obtain ⟨t17, hk⟩ := List.forall_mem_cons.mp hk
  have t17 : tv_ok ta (0, 0, 1, []) (n_v vs 17) := t17
  have k17 : 0 ≤ v_iv (n_v vs 17) ∧ v_iv (n_v vs 17) ≤ 1 := tv_rng t17
  obtain ⟨t18, hk⟩ := List.forall_mem_cons.mp hk
  have t18 : tv_ok ta (0, 0, 24, []) (n_v vs 18) := t18
  have k18 : 0 ≤ v_iv (n_v vs 18) ∧ v_iv (n_v vs 18) ≤ 24 := tv_rng t18
  obtain ⟨t19, hk⟩ := List.forall_mem_cons.mp hk
  have t19 : tv_ok ta (0, 1, 1, []) (n_v vs 19) := t19
  have k19 : 1 ≤ v_iv (n_v vs 19) ∧ v_iv (n_v vs 19) ≤ 1 := tv_rng t19
  obtain ⟨t20, hk⟩ := List.forall_mem_cons.mp hk
  have t20 : tv_ok ta (0, 0, 24, []) (n_v vs 20) := t20
  have k20 : 0 ≤ v_iv (n_v vs 20) ∧ v_iv (n_v vs 20) ≤ 24 := tv_rng t20
  obtain ⟨t21, hk⟩ := List.forall_mem_cons.mp hk
  have t21 : tv_ok ta (0, 1, 1, []) (n_v vs 21) := t21
  have k21 : 1 ≤ v_iv (n_v vs 21) ∧ v_iv (n_v vs 21) ≤ 1 := tv_rng t21
  obtain ⟨t22, hk⟩ := List.forall_mem_cons.mp hk
  have t22 : tv_ok ta (0, 1, 1, []) (n_v vs 22) := t22
  have k22 : 1 ≤ v_iv (n_v vs 22) ∧ v_iv (n_v vs 22) ≤ 1 := tv_rng t22
  have hf : fc_ok [(100, [13, 20, 21], []), (10, [20, 11, 4], []), (9, [11, 0], [34]), (9, [13, 0], [38]), (100, [13, 18, 19], []), (10, [18, 9, 4], []), (9, [9, 0], [33]), (9, [13, 0], [38]), (7, [15, 17], [1]), (10, [17, 13, 16], []), (10, [16, 11, 4], []), (9, [11, 0], [34]), (9, [13, 0], [38]), (10, [15, 13, 14], []), (10, [14, 9, 4], []), (9, [9, 0], [33]), (9, [13, 0], [38]), (9, [11, 0], [34]), (9, [9, 0], [33]), (20, [5, 0, 3], [2, 38, 26, 52, -2])] ta ws vs := hf
  obtain ⟨ta1, w1, le1, ⟨_, s1⟩, hf⟩ := fc_us (by decide) hf
  have s1 : (∀ b j, w_el ws b j = if b = v_ad (n_v vs 13) ∧ j = (v_iv (n_v vs 20)).toNat then v_iv (n_v vs 21) else w_el w1 b j) ∧ ∀ b k, w_fd ws b k = w_fd w1 b k := s1
  obtain ⟨f1, hf⟩ := fc_un (by decide) hf
  have f1 : v_iv (n_v vs 20) = w_el w1 (v_ad (n_v vs 11)) (v_iv (n_v vs 4)).toNat := f1
  obtain ⟨f2, hf⟩ := fc_un (by decide) hf
  have f2 : n_v vs 11 = w_fd w1 (v_ad (n_v vs 0)) 34 := f2
  obtain ⟨f3, hf⟩ := fc_un (by decide) hf
  have f3 : n_v vs 13 = w_fd w1 (v_ad (n_v vs 0)) 38 := f3
  obtain ⟨ta2, w2, le2, ⟨_, s2⟩, hf⟩ := fc_us (by decide) hf
  have s2 : (∀ b j, w_el w1 b j = if b = v_ad (n_v vs 13) ∧ j = (v_iv (n_v vs 18)).toNat then v_iv (n_v vs 19) else w_el w2 b j) ∧ ∀ b k, w_fd w1 b k = w_fd w2 b k := s2
  obtain ⟨f5, hf⟩ := fc_un (by decide) hf
  have f5 : v_iv (n_v vs 18) = w_el w2 (v_ad (n_v vs 9)) (v_iv (n_v vs 4)).toNat := f5
  obtain ⟨f6, hf⟩ := fc_un (by decide) hf
  have f6 : n_v vs 9 = w_fd w2 (v_ad (n_v vs 0)) 33 := f6
  obtain ⟨f7, hf⟩ := fc_un (by decide) hf
  have f7 : n_v vs 13 = w_fd w2 (v_ad (n_v vs 0)) 38 := f7
  obtain ⟨f8, hf⟩ := fc_un (by decide) hf
  have f8 : v_iv (n_v vs 15) ≠ v_iv (n_v vs 17) := f8
  obtain ⟨f9, hf⟩ := fc_un (by decide) hf
  have f9 : v_iv (n_v vs 17) = w_el w2 (v_ad (n_v vs 13)) (v_iv (n_v vs 16)).toNat := f9
  obtain ⟨f10, hf⟩ := fc_un (by decide) hf
  have f10 : v_iv (n_v vs 16) = w_el w2 (v_ad (n_v vs 11)) (v_iv (n_v vs 4)).toNat := f10
  obtain ⟨f11, hf⟩ := fc_un (by decide) hf
  have f11 : n_v vs 11 = w_fd w2 (v_ad (n_v vs 0)) 34 := f11
  obtain ⟨f12, hf⟩ := fc_un (by decide) hf
  have f12 : n_v vs 13 = w_fd w2 (v_ad (n_v vs 0)) 38 := f12
  obtain ⟨f13, hf⟩ := fc_un (by decide) hf
  have f13 : v_iv (n_v vs 15) = w_el w2 (v_ad (n_v vs 13)) (v_iv (n_v vs 14)).toNat := f13
  obtain ⟨f14, hf⟩ := fc_un (by decide) hf
  have f14 : v_iv (n_v vs 14) = w_el w2 (v_ad (n_v vs 9)) (v_iv (n_v vs 4)).toNat := f14
  obtain ⟨f15, hf⟩ := fc_un (by decide) hf
  have f15 : n_v vs 9 = w_fd w2 (v_ad (n_v vs 0)) 33 := f15
  obtain ⟨f16, hf⟩ := fc_un (by decide) hf
  have f16 : n_v vs 13 = w_fd w2 (v_ad (n_v vs 0)) 38 := f16
  obtain ⟨f17, hf⟩ := fc_un (by decide) hf
  have f17 : n_v vs 11 = w_fd w2 (v_ad (n_v vs 0)) 34 := f17
  obtain ⟨f18, hf⟩ := fc_un (by decide) hf
  have f18 : n_v vs 9 = w_fd w2 (v_ad (n_v vs 0)) 33 := f18
  obtain ⟨f19, hf⟩ := fc_un (by decide) hf
  have f19 : 52 + (-2) * w_sum w2 (w_ar w2 (n_v vs 0) 38) 26 + v_iv (n_v vs 3) + 1 ≤ v_iv (n_v vs 5) := f19
  have a11 : v_ad (n_v vs 11) = w_ar ws (n_v vs 0) 34 := by rw [f2]; show _ = v_ad (w_fd ws _ _); rw [s1.2]
  have a13 : v_ad (n_v vs 13) = w_ar ws (n_v vs 0) 38 := by rw [f3]; show _ = v_ad (w_fd ws _ _); rw [s1.2]
  have a9 : v_ad (n_v vs 9) = w_ar ws (n_v vs 0) 33 := by rw [f6]; show _ = v_ad (w_fd ws _ _); rw [s1.2, s2.2]
  rw [a13] at s1
  rw [a11] at f1
  rw [a13] at s2
  rw [a9] at f5
  rw [a13] at f9
  rw [a11] at f10
  rw [a13] at f13
  rw [a9] at f14
  have c34 := r11; rw [a11] at c34
  have c38 := r13; rw [a13] at c38
  have c33 := r9; rw [a9] at c33
  have ne_33_34 : w_ar ws (n_v vs 0) 33 ≠ w_ar ws (n_v vs 0) 34 := fun e => by rw [e, c34] at c33; exact absurd (Option.some.inj c33) (by decide)
  have ne_33_38 : w_ar ws (n_v vs 0) 33 ≠ w_ar ws (n_v vs 0) 38 := fun e => by rw [e, c38] at c33; exact absurd (Option.some.inj c33) (by decide)
  have ne_34_33 : w_ar ws (n_v vs 0) 34 ≠ w_ar ws (n_v vs 0) 33 := fun e => by rw [e, c33] at c34; exact absurd (Option.some.inj c34) (by decide)
  have ne_34_38 : w_ar ws (n_v vs 0) 34 ≠ w_ar ws (n_v vs 0) 38 := fun e => by rw [e, c38] at c34; exact absurd (Option.some.inj c34) (by decide)
  have ne_38_33 : w_ar ws (n_v vs 0) 38 ≠ w_ar ws (n_v vs 0) 33 := fun e => by rw [e, c33] at c38; exact absurd (Option.some.inj c38) (by decide)
  have ne_38_34 : w_ar ws (n_v vs 0) 38 ≠ w_ar ws (n_v vs 0) 34 := fun e => by rw [e, c34] at c38; exact absurd (Option.some.inj c38) (by decide)
  have ex : v_iv (n_v vs 18) = v_iv (n_v vs 14) := by rw [f5, f14]
  have ey : v_iv (n_v vs 20) = v_iv (n_v vs 16) := by rw [f1, el_ne s2.1 (Or.inl ne_34_38), ← f10]
  have hne : (v_iv (n_v vs 14)).toNat ≠ (v_iv (n_v vs 16)).toNat := fun e => f8 (by rw [f13, f9, e])
  have g1 := sum_set s1.1 (n := 26) (by omega)
  have g2 := sum_set s2.1 (n := 26) (by omega)
  rw [el_ne s2.1 (Or.inr (by rw [ex, ey]; exact fun e => hne e.symm)), ey, ← f9] at g1
  rw [ex, ← f13] at g2
  have t2 : w_ar w2 (n_v vs 0) 38 = w_ar ws (n_v vs 0) 38 := by show v_ad (w_fd w2 _ _) = v_ad (w_fd ws _ _); rw [s1.2, s2.2]
  rw [t2] at f19
  have key : 52 + (-2) * w_sum ws (w_ar ws (n_v vs 0) 38) 26 + v_iv (n_v vs 22) + 1 ≤ v_iv (n_v vs 5) := by omega
  have nf0 : fc_1 (20, [5, 0, 22], [2, 38, 26, 52, -2]) ws (vs) := by
    refine ⟨fun n hn => ?_, ?_⟩
    · have hn : n ∈ [5, 0, 22] := hn
      rw [hl]
      simp only [List.mem_cons, List.not_mem_nil, or_false] at hn
      show n < 24; omega
    · show 52 + (-2) * w_sum ws (w_ar ws (n_v vs 0) 38) 26 + v_iv (n_v vs 22) + 1 ≤ v_iv (n_v vs 5)
      exact key
  refine ⟨fun q hq => (by cases hq), [], trivial, ?_, fun _ h => by cases h⟩
  rw [List.append_nil]
  exact List.forall_mem_cons.mpr ⟨⟨by decide, nf0⟩, fun _ h => by cases h⟩
def n_Mo_flood_an : List an_T := [(2, [(0, (2, 0, 0, [139])), (1, (0, 0, 24, [])), (2, (0, -1, 24, [])), (3, (0, 0, 25, []))], [], (0, 0), [(0, 0, 99998), (1, 3, 25), (0, 0, 100000), (0, 0, 0), (0, 0, 0)], [], [], [], 0, [], []), (34, [(0, (2, 0, 0, [139])), (1, (0, 0, 24, [])), (2, (0, -1, 24, [])), (3, (0, 0, 1, []))], [], (0, 0), [(0, 0, 99966), (2, 4, 0), (0, 0, 100000), (0, 0, 0), (0, 0, 0)], [], [], [], 0, [(0, 0, 53, [])], [(20, [4, 0, 3], [1, 38, 26, 52, -2])]), (43, [(0, (2, 0, 0, [139])), (1, (0, 0, 24, [])), (2, (0, -1, 24, [])), (3, (0, 0, 1, [])), (4, (0, 0, 80, []))], [], (0, 0), [(0, 0, 99966), (2, 5, 0), (0, 0, 99957), (1, 4, 80), (0, 0, 100000)], [], [], [], 0, [(0, 0, 53, [])], [(20, [5, 0, 3], [2, 38, 26, 52, -2])])]
def t_Mo_flood_ct : ct_L := []
set_option maxRecDepth 100000 in
theorem c_Mo_flood {l : Launch} {D : va_G} {kA : Nat → ClassId} : ct_ok l D kA GG y_Mo_flood z_Mo_flood e_Mo_flood := chk_all_ok (FT := [(57, 13, 33), (60, 13, 34), (63, 13, 35), (72, 13, 38), (594, 13, 31), (597, 13, 32)]) (PT := []) (CT := t_Mo_flood_ct) (KT := []) (NT := []) (AN := n_Mo_flood_an) (OT := [o_Mo_flood_0, o_Mo_flood_1, o_Mo_flood_2, o_Mo_flood_3]) 5 384 (List.forall_mem_cons.mpr ⟨oo_Mo_flood_0, List.forall_mem_cons.mpr ⟨oo_Mo_flood_1, List.forall_mem_cons.mpr ⟨oo_Mo_flood_2, List.forall_mem_cons.mpr ⟨oo_Mo_flood_3, List.forall_mem_nil _⟩⟩⟩⟩) (by decide +kernel) ⟨List.forall_mem_cons.mpr ⟨gf_Mo_57, List.forall_mem_cons.mpr ⟨gf_Mo_60, List.forall_mem_cons.mpr ⟨gf_Mo_63, List.forall_mem_cons.mpr ⟨gf_Mo_72, List.forall_mem_cons.mpr ⟨gf_Mo_594, List.forall_mem_cons.mpr ⟨gf_Mo_597, List.forall_mem_nil _⟩⟩⟩⟩⟩⟩, List.forall_mem_nil _, List.forall_mem_nil _, List.forall_mem_nil _, List.forall_mem_nil _⟩ (by decide +kernel)
def o_Mo_isInCore_0 : or_T := (25, 6, [(0, (2, 0, 0, [139])), (5, (0, 1, 1, []))], [], [], [(0, 0, 51, [])], [(20, [6, 0, 5], [1, 22, 25, 0, 2])], [])
theorem oo_Mo_isInCore_0 {kA : Nat → ClassId} : or_ok kA GG o_Mo_isInCore_0 := by
  intro A ta ws vs hD hth hl hk hf
  have hl : vs.length = 6 := hl
  have hk : ∀ q ∈ ([(0, (2, 0, 0, [139])), (5, (0, 1, 1, []))] : List (Nat × tv_T)), tv_ok ta q.2 (n_v vs q.1) := hk
  obtain ⟨t0, hk⟩ := List.forall_mem_cons.mp hk
  have t0 : tv_ok ta (2, 0, 0, [139]) (n_v vs 0) := t0
  have r0 : ta (v_ad (n_v vs 0)) = some 139 := tv_rg t0
  obtain ⟨t5, hk⟩ := List.forall_mem_cons.mp hk
  have t5 : tv_ok ta (0, 1, 1, []) (n_v vs 5) := t5
  have k5 : 1 ≤ v_iv (n_v vs 5) ∧ v_iv (n_v vs 5) ≤ 1 := tv_rng t5
  have ra : ta (w_ar ws (n_v vs 0) 22) = some 151 := tv_rg (th_fd hD hth r0 (g := GG_139) rfl (k := 22) (t := (2, 0, 0, [151])) rfl rfl)
  have bs := sum_bd (ws := ws) (a := w_ar ws (n_v vs 0) 22) (lo := 0) (hi := 1) (n := 25) (fun j hj => th_el hD hth ra (kd := 2) (n := 25) (m := 25) (rs := []) (L := []) rfl (by decide) (by omega))
  obtain ⟨x, ex, hx⟩ := iv_ex (ta := ta) (lo := 0) (hi := 51) (z := 0 + 2 * w_sum ws (w_ar ws (n_v vs 0) 22) 25 + v_iv (n_v vs 5)) (by omega) (by omega) (by decide) (by decide)
  have ex2 : v_iv (Value.int x) = 0 + 2 * w_sum ws (w_ar ws (n_v vs 0) 22) 25 + v_iv (n_v vs 5) := ex
  have e_0 : n_v (vs ++ [Value.int x]) 0 = n_v vs 0 := n_v_old (by rw [hl]; decide)
  have e_5 : n_v (vs ++ [Value.int x]) 5 = n_v vs 5 := n_v_old (by rw [hl]; decide)
  have e_6 : n_v (vs ++ [Value.int x]) 6 = Value.int x := n_v_new hl
  have nf0 : fc_1 (20, [6, 0, 5], [1, 22, 25, 0, 2]) ws (vs ++ [Value.int x]) := by
    refine ⟨fun n hn => ?_, ?_⟩
    · have hn : n ∈ [6, 0, 5] := hn
      rw [List.length_append, hl]
      simp only [List.mem_cons, List.not_mem_nil, or_false] at hn
      show n < 6 + 1; omega
    · show v_iv (n_v (vs ++ [Value.int x]) 6) = 0 + 2 * w_sum ws (w_ar ws (n_v (vs ++ [Value.int x]) 0) 22) 25 + v_iv (n_v (vs ++ [Value.int x]) 5)
      rw [e_0]
      rw [e_5]
      rw [e_6]
      omega
  exact ⟨fun q hq => (by cases hq), [Value.int x], ag_one hx, List.forall_mem_cons.mpr ⟨⟨by decide, nf0⟩, fun _ h => by cases h⟩, fun _ h => by cases h⟩
def o_Mo_isInCore_1 : or_T := (34, 7, [(0, (2, 0, 0, [139])), (3, (0, 1, 1, [])), (4, (0, 0, 51, [])), (5, (0, 0, 0, []))], [(20, [4, 0, 3], [1, 22, 25, 0, 2])], [], [(0, 0, 51, [])], [(20, [7, 0, 5], [2, 22, 25, 0, 2])], [(7, 4, 0, 0)])
theorem oo_Mo_isInCore_1 {kA : Nat → ClassId} : or_ok kA GG o_Mo_isInCore_1 := by
  intro A ta ws vs hD hth hl hk hf
  have hl : vs.length = 7 := hl
  have hk : ∀ q ∈ ([(0, (2, 0, 0, [139])), (3, (0, 1, 1, [])), (4, (0, 0, 51, [])), (5, (0, 0, 0, []))] : List (Nat × tv_T)), tv_ok ta q.2 (n_v vs q.1) := hk
  obtain ⟨t0, hk⟩ := List.forall_mem_cons.mp hk
  have t0 : tv_ok ta (2, 0, 0, [139]) (n_v vs 0) := t0
  have r0 : ta (v_ad (n_v vs 0)) = some 139 := tv_rg t0
  obtain ⟨t3, hk⟩ := List.forall_mem_cons.mp hk
  have t3 : tv_ok ta (0, 1, 1, []) (n_v vs 3) := t3
  have k3 : 1 ≤ v_iv (n_v vs 3) ∧ v_iv (n_v vs 3) ≤ 1 := tv_rng t3
  obtain ⟨t4, hk⟩ := List.forall_mem_cons.mp hk
  have t4 : tv_ok ta (0, 0, 51, []) (n_v vs 4) := t4
  have k4 : 0 ≤ v_iv (n_v vs 4) ∧ v_iv (n_v vs 4) ≤ 51 := tv_rng t4
  obtain ⟨t5, hk⟩ := List.forall_mem_cons.mp hk
  have t5 : tv_ok ta (0, 0, 0, []) (n_v vs 5) := t5
  have k5 : 0 ≤ v_iv (n_v vs 5) ∧ v_iv (n_v vs 5) ≤ 0 := tv_rng t5
  have hf : fc_ok [(20, [4, 0, 3], [1, 22, 25, 0, 2])] ta ws vs := hf
  obtain ⟨f0, hf⟩ := fc_un (by decide) hf
  have f0 : v_iv (n_v vs 4) = 0 + 2 * w_sum ws (w_ar ws (n_v vs 0) 22) 25 + v_iv (n_v vs 3) := f0
  have key : 0 + 2 * w_sum ws (w_ar ws (n_v vs 0) 22) 25 + v_iv (n_v vs 5) + 1 ≤ v_iv (n_v vs 4) := by omega
  obtain ⟨x, ex, hx⟩ := iv_ex (ta := ta) (lo := 0) (hi := 51) (z := v_iv (n_v vs 4)) (by omega) (by omega) (by decide) (by decide)
  have ex2 : v_iv (Value.int x) = v_iv (n_v vs 4) := ex
  have e_0 : n_v (vs ++ [Value.int x]) 0 = n_v vs 0 := n_v_old (by rw [hl]; decide)
  have e_5 : n_v (vs ++ [Value.int x]) 5 = n_v vs 5 := n_v_old (by rw [hl]; decide)
  have e_7 : n_v (vs ++ [Value.int x]) 7 = Value.int x := n_v_new hl
  have nf0 : fc_1 (20, [7, 0, 5], [2, 22, 25, 0, 2]) ws (vs ++ [Value.int x]) := by
    refine ⟨fun n hn => ?_, ?_⟩
    · have hn : n ∈ [7, 0, 5] := hn
      rw [List.length_append, hl]
      simp only [List.mem_cons, List.not_mem_nil, or_false] at hn
      show n < 7 + 1; omega
    · show 0 + 2 * w_sum ws (w_ar ws (n_v (vs ++ [Value.int x]) 0) 22) 25 + v_iv (n_v (vs ++ [Value.int x]) 5) + 1 ≤ v_iv (n_v (vs ++ [Value.int x]) 7)
      rw [e_0]
      rw [e_5]
      rw [e_7]
      omega
  obtain ⟨x0, e0, _, _⟩ := tv_int t4 rfl
  have e1 : v_iv (n_v vs 4) = x0.toInt := by rw [e0]; rfl
  have ho : sy_ofs (vs ++ [Value.int x]) (7, 4, 0, 0) := by
    refine ⟨x, x0, by rw [List.getElem?_append_right (by rw [hl]; decide), hl]; rfl, ?_, ?_, ?_⟩
    · rw [List.getElem?_append_left (by rw [hl]; decide)]; exact n_v_some (by rw [hl]; decide) e0
    · show x0.toInt + 0 ≤ x.toInt; omega
    · show x.toInt ≤ x0.toInt + 0; omega
  exact ⟨fun q hq => (by cases hq), [Value.int x], ag_one hx, List.forall_mem_cons.mpr ⟨⟨by decide, nf0⟩, fun _ h => by cases h⟩, List.forall_mem_cons.mpr ⟨ho, fun _ h => by cases h⟩⟩
def o_Mo_isInCore_2 : or_T := (25, 7, [(0, (2, 0, 0, [139])), (3, (0, 0, 1, [])), (5, (0, 0, 51, []))], [(20, [5, 0, 3], [2, 22, 25, 0, 2])], [], [(0, 0, 51, [])], [(20, [7, 0, 3], [1, 22, 25, 0, 2])], [(7, 5, -1000000000000, -1)])
theorem oo_Mo_isInCore_2 {kA : Nat → ClassId} : or_ok kA GG o_Mo_isInCore_2 := by
  intro A ta ws vs hD hth hl hk hf
  have hl : vs.length = 7 := hl
  have hk : ∀ q ∈ ([(0, (2, 0, 0, [139])), (3, (0, 0, 1, [])), (5, (0, 0, 51, []))] : List (Nat × tv_T)), tv_ok ta q.2 (n_v vs q.1) := hk
  obtain ⟨t0, hk⟩ := List.forall_mem_cons.mp hk
  have t0 : tv_ok ta (2, 0, 0, [139]) (n_v vs 0) := t0
  have r0 : ta (v_ad (n_v vs 0)) = some 139 := tv_rg t0
  obtain ⟨t3, hk⟩ := List.forall_mem_cons.mp hk
  have t3 : tv_ok ta (0, 0, 1, []) (n_v vs 3) := t3
  have k3 : 0 ≤ v_iv (n_v vs 3) ∧ v_iv (n_v vs 3) ≤ 1 := tv_rng t3
  obtain ⟨t5, hk⟩ := List.forall_mem_cons.mp hk
  have t5 : tv_ok ta (0, 0, 51, []) (n_v vs 5) := t5
  have k5 : 0 ≤ v_iv (n_v vs 5) ∧ v_iv (n_v vs 5) ≤ 51 := tv_rng t5
  have hf : fc_ok [(20, [5, 0, 3], [2, 22, 25, 0, 2])] ta ws vs := hf
  obtain ⟨f0, hf⟩ := fc_un (by decide) hf
  have f0 : 0 + 2 * w_sum ws (w_ar ws (n_v vs 0) 22) 25 + v_iv (n_v vs 3) + 1 ≤ v_iv (n_v vs 5) := f0
  have ra : ta (w_ar ws (n_v vs 0) 22) = some 151 := tv_rg (th_fd hD hth r0 (g := GG_139) rfl (k := 22) (t := (2, 0, 0, [151])) rfl rfl)
  have bs := sum_bd (ws := ws) (a := w_ar ws (n_v vs 0) 22) (lo := 0) (hi := 1) (n := 25) (fun j hj => th_el hD hth ra (kd := 2) (n := 25) (m := 25) (rs := []) (L := []) rfl (by decide) (by omega))
  obtain ⟨x, ex, hx⟩ := iv_ex (ta := ta) (lo := 0) (hi := 51) (z := 0 + 2 * w_sum ws (w_ar ws (n_v vs 0) 22) 25 + v_iv (n_v vs 3)) (by omega) (by omega) (by decide) (by decide)
  have ex2 : v_iv (Value.int x) = 0 + 2 * w_sum ws (w_ar ws (n_v vs 0) 22) 25 + v_iv (n_v vs 3) := ex
  have e_0 : n_v (vs ++ [Value.int x]) 0 = n_v vs 0 := n_v_old (by rw [hl]; decide)
  have e_3 : n_v (vs ++ [Value.int x]) 3 = n_v vs 3 := n_v_old (by rw [hl]; decide)
  have e_7 : n_v (vs ++ [Value.int x]) 7 = Value.int x := n_v_new hl
  have nf0 : fc_1 (20, [7, 0, 3], [1, 22, 25, 0, 2]) ws (vs ++ [Value.int x]) := by
    refine ⟨fun n hn => ?_, ?_⟩
    · have hn : n ∈ [7, 0, 3] := hn
      rw [List.length_append, hl]
      simp only [List.mem_cons, List.not_mem_nil, or_false] at hn
      show n < 7 + 1; omega
    · show v_iv (n_v (vs ++ [Value.int x]) 7) = 0 + 2 * w_sum ws (w_ar ws (n_v (vs ++ [Value.int x]) 0) 22) 25 + v_iv (n_v (vs ++ [Value.int x]) 3)
      rw [e_0]
      rw [e_3]
      rw [e_7]
      omega
  obtain ⟨x0, e0, _, _⟩ := tv_int t5 rfl
  have e1 : v_iv (n_v vs 5) = x0.toInt := by rw [e0]; rfl
  have ho : sy_ofs (vs ++ [Value.int x]) (7, 5, -1000000000000, -1) := by
    refine ⟨x, x0, by rw [List.getElem?_append_right (by rw [hl]; decide), hl]; rfl, ?_, ?_, ?_⟩
    · rw [List.getElem?_append_left (by rw [hl]; decide)]; exact n_v_some (by rw [hl]; decide) e0
    · show x0.toInt + (-1000000000000) ≤ x.toInt; omega
    · show x.toInt ≤ x0.toInt + (-1); omega
  exact ⟨fun q hq => (by cases hq), [Value.int x], ag_one hx, List.forall_mem_cons.mpr ⟨⟨by decide, nf0⟩, fun _ h => by cases h⟩, List.forall_mem_cons.mpr ⟨ho, fun _ h => by cases h⟩⟩
def o_Mo_isInCore_3 : or_T := (62, 11, [(0, (2, 0, 0, [139])), (3, (0, 0, 1, [])), (4, (0, 0, 23, [])), (5, (0, 0, 51, [])), (7, (2, 0, 0, [151])), (8, (0, 1, 1, []))], [(10, [8, 7, 4], []), (9, [7, 0], [22]), (20, [5, 0, 3], [2, 22, 25, 0, 2])], [], [(0, 0, 51, [])], [(20, [11, 0, 3], [2, 22, 25, 0, 2]), (20, [0, 4], [5, 22, 1])], [(11, 5, 0, 0)])
theorem oo_Mo_isInCore_3 {kA : Nat → ClassId} : or_ok kA GG o_Mo_isInCore_3 := by
  intro A ta ws vs hD hth hl hk hf
  have hl : vs.length = 11 := hl
  have hk : ∀ q ∈ ([(0, (2, 0, 0, [139])), (3, (0, 0, 1, [])), (4, (0, 0, 23, [])), (5, (0, 0, 51, [])), (7, (2, 0, 0, [151])), (8, (0, 1, 1, []))] : List (Nat × tv_T)), tv_ok ta q.2 (n_v vs q.1) := hk
  obtain ⟨t0, hk⟩ := List.forall_mem_cons.mp hk
  have t0 : tv_ok ta (2, 0, 0, [139]) (n_v vs 0) := t0
  have r0 : ta (v_ad (n_v vs 0)) = some 139 := tv_rg t0
  obtain ⟨t3, hk⟩ := List.forall_mem_cons.mp hk
  have t3 : tv_ok ta (0, 0, 1, []) (n_v vs 3) := t3
  have k3 : 0 ≤ v_iv (n_v vs 3) ∧ v_iv (n_v vs 3) ≤ 1 := tv_rng t3
  obtain ⟨t4, hk⟩ := List.forall_mem_cons.mp hk
  have t4 : tv_ok ta (0, 0, 23, []) (n_v vs 4) := t4
  have k4 : 0 ≤ v_iv (n_v vs 4) ∧ v_iv (n_v vs 4) ≤ 23 := tv_rng t4
  obtain ⟨t5, hk⟩ := List.forall_mem_cons.mp hk
  have t5 : tv_ok ta (0, 0, 51, []) (n_v vs 5) := t5
  have k5 : 0 ≤ v_iv (n_v vs 5) ∧ v_iv (n_v vs 5) ≤ 51 := tv_rng t5
  obtain ⟨t7, hk⟩ := List.forall_mem_cons.mp hk
  have t7 : tv_ok ta (2, 0, 0, [151]) (n_v vs 7) := t7
  have r7 : ta (v_ad (n_v vs 7)) = some 151 := tv_rg t7
  obtain ⟨t8, hk⟩ := List.forall_mem_cons.mp hk
  have t8 : tv_ok ta (0, 1, 1, []) (n_v vs 8) := t8
  have k8 : 1 ≤ v_iv (n_v vs 8) ∧ v_iv (n_v vs 8) ≤ 1 := tv_rng t8
  have hf : fc_ok [(10, [8, 7, 4], []), (9, [7, 0], [22]), (20, [5, 0, 3], [2, 22, 25, 0, 2])] ta ws vs := hf
  obtain ⟨f0, hf⟩ := fc_un (by decide) hf
  have f0 : v_iv (n_v vs 8) = w_el ws (v_ad (n_v vs 7)) (v_iv (n_v vs 4)).toNat := f0
  obtain ⟨f1, hf⟩ := fc_un (by decide) hf
  have f1 : n_v vs 7 = w_fd ws (v_ad (n_v vs 0)) 22 := f1
  obtain ⟨f2, hf⟩ := fc_un (by decide) hf
  have f2 : 0 + 2 * w_sum ws (w_ar ws (n_v vs 0) 22) 25 + v_iv (n_v vs 3) + 1 ≤ v_iv (n_v vs 5) := f2
  have key : 0 + 2 * w_sum ws (w_ar ws (n_v vs 0) 22) 25 + v_iv (n_v vs 3) + 1 ≤ v_iv (n_v vs 5) := by omega
  obtain ⟨x, ex, hx⟩ := iv_ex (ta := ta) (lo := 0) (hi := 51) (z := v_iv (n_v vs 5)) (by omega) (by omega) (by decide) (by decide)
  have ex2 : v_iv (Value.int x) = v_iv (n_v vs 5) := ex
  have e_0 : n_v (vs ++ [Value.int x]) 0 = n_v vs 0 := n_v_old (by rw [hl]; decide)
  have e_3 : n_v (vs ++ [Value.int x]) 3 = n_v vs 3 := n_v_old (by rw [hl]; decide)
  have e_4 : n_v (vs ++ [Value.int x]) 4 = n_v vs 4 := n_v_old (by rw [hl]; decide)
  have e_11 : n_v (vs ++ [Value.int x]) 11 = Value.int x := n_v_new hl
  have nf0 : fc_1 (20, [11, 0, 3], [2, 22, 25, 0, 2]) ws (vs ++ [Value.int x]) := by
    refine ⟨fun n hn => ?_, ?_⟩
    · have hn : n ∈ [11, 0, 3] := hn
      rw [List.length_append, hl]
      simp only [List.mem_cons, List.not_mem_nil, or_false] at hn
      show n < 11 + 1; omega
    · show 0 + 2 * w_sum ws (w_ar ws (n_v (vs ++ [Value.int x]) 0) 22) 25 + v_iv (n_v (vs ++ [Value.int x]) 3) + 1 ≤ v_iv (n_v (vs ++ [Value.int x]) 11)
      rw [e_0]
      rw [e_3]
      rw [e_11]
      omega
  have nf1 : fc_1 (20, [0, 4], [5, 22, 1]) ws (vs ++ [Value.int x]) := by
    refine ⟨fun n hn => ?_, ?_⟩
    · have hn : n ∈ [0, 4] := hn
      rw [List.length_append, hl]
      simp only [List.mem_cons, List.not_mem_nil, or_false] at hn
      show n < 11 + 1; omega
    · show w_el ws (w_ar ws (n_v (vs ++ [Value.int x]) 0) 22) (v_iv (n_v (vs ++ [Value.int x]) 4)).toNat = 1
      rw [e_0]
      rw [e_4]
      show w_el ws (v_ad (w_fd ws (v_ad (n_v vs 0)) 22)) (v_iv (n_v vs 4)).toNat = 1
      rw [← f1, ← f0]; omega
  obtain ⟨x0, e0, _, _⟩ := tv_int t5 rfl
  have e1 : v_iv (n_v vs 5) = x0.toInt := by rw [e0]; rfl
  have ho : sy_ofs (vs ++ [Value.int x]) (11, 5, 0, 0) := by
    refine ⟨x, x0, by rw [List.getElem?_append_right (by rw [hl]; decide), hl]; rfl, ?_, ?_, ?_⟩
    · rw [List.getElem?_append_left (by rw [hl]; decide)]; exact n_v_some (by rw [hl]; decide) e0
    · show x0.toInt + 0 ≤ x.toInt; omega
    · show x.toInt ≤ x0.toInt + 0; omega
  exact ⟨fun q hq => (by cases hq), [Value.int x], ag_one hx, List.forall_mem_cons.mpr ⟨⟨by decide, nf0⟩, List.forall_mem_cons.mpr ⟨⟨by decide, nf1⟩, fun _ h => by cases h⟩⟩, List.forall_mem_cons.mpr ⟨ho, fun _ h => by cases h⟩⟩
def o_Mo_isInCore_4 : or_T := (34, 13, [(0, (2, 0, 0, [139])), (3, (0, 0, 1, [])), (4, (0, 0, 23, [])), (7, (0, 0, 51, [])), (9, (2, 0, 0, [151])), (10, (0, 0, 0, [])), (11, (0, 1, 1, []))], [(100, [9, 4, 10], []), (9, [9, 0], [22]), (20, [7, 0, 3], [2, 22, 25, 0, 2]), (20, [0, 4], [5, 22, 1])], [], [(0, 0, 51, [])], [(20, [13, 0, 11], [2, 22, 25, 0, 2])], [(13, 7, 0, 0)])
theorem oo_Mo_isInCore_4 {kA : Nat → ClassId} : or_ok kA GG o_Mo_isInCore_4 := by
  intro A ta ws vs hD hth hl hk hf
  have hl : vs.length = 13 := hl
  have hk : ∀ q ∈ ([(0, (2, 0, 0, [139])), (3, (0, 0, 1, [])), (4, (0, 0, 23, [])), (7, (0, 0, 51, [])), (9, (2, 0, 0, [151])), (10, (0, 0, 0, [])), (11, (0, 1, 1, []))] : List (Nat × tv_T)), tv_ok ta q.2 (n_v vs q.1) := hk
  obtain ⟨t0, hk⟩ := List.forall_mem_cons.mp hk
  have t0 : tv_ok ta (2, 0, 0, [139]) (n_v vs 0) := t0
  have r0 : ta (v_ad (n_v vs 0)) = some 139 := tv_rg t0
  obtain ⟨t3, hk⟩ := List.forall_mem_cons.mp hk
  have t3 : tv_ok ta (0, 0, 1, []) (n_v vs 3) := t3
  have k3 : 0 ≤ v_iv (n_v vs 3) ∧ v_iv (n_v vs 3) ≤ 1 := tv_rng t3
  obtain ⟨t4, hk⟩ := List.forall_mem_cons.mp hk
  have t4 : tv_ok ta (0, 0, 23, []) (n_v vs 4) := t4
  have k4 : 0 ≤ v_iv (n_v vs 4) ∧ v_iv (n_v vs 4) ≤ 23 := tv_rng t4
  obtain ⟨t7, hk⟩ := List.forall_mem_cons.mp hk
  have t7 : tv_ok ta (0, 0, 51, []) (n_v vs 7) := t7
  have k7 : 0 ≤ v_iv (n_v vs 7) ∧ v_iv (n_v vs 7) ≤ 51 := tv_rng t7
  obtain ⟨t9, hk⟩ := List.forall_mem_cons.mp hk
  have t9 : tv_ok ta (2, 0, 0, [151]) (n_v vs 9) := t9
  have r9 : ta (v_ad (n_v vs 9)) = some 151 := tv_rg t9
  obtain ⟨t10, hk⟩ := List.forall_mem_cons.mp hk
  have t10 : tv_ok ta (0, 0, 0, []) (n_v vs 10) := t10
  have k10 : 0 ≤ v_iv (n_v vs 10) ∧ v_iv (n_v vs 10) ≤ 0 := tv_rng t10
  obtain ⟨t11, hk⟩ := List.forall_mem_cons.mp hk
  have t11 : tv_ok ta (0, 1, 1, []) (n_v vs 11) := t11
  have k11 : 1 ≤ v_iv (n_v vs 11) ∧ v_iv (n_v vs 11) ≤ 1 := tv_rng t11
  have hf : fc_ok [(100, [9, 4, 10], []), (9, [9, 0], [22]), (20, [7, 0, 3], [2, 22, 25, 0, 2]), (20, [0, 4], [5, 22, 1])] ta ws vs := hf
  obtain ⟨ta1, w1, le1, ⟨_, s1⟩, hf⟩ := fc_us (by decide) hf
  have s1 : (∀ b j, w_el ws b j = if b = v_ad (n_v vs 9) ∧ j = (v_iv (n_v vs 4)).toNat then v_iv (n_v vs 10) else w_el w1 b j) ∧ ∀ b k, w_fd ws b k = w_fd w1 b k := s1
  obtain ⟨f1, hf⟩ := fc_un (by decide) hf
  have f1 : n_v vs 9 = w_fd w1 (v_ad (n_v vs 0)) 22 := f1
  obtain ⟨f2, hf⟩ := fc_un (by decide) hf
  have f2 : 0 + 2 * w_sum w1 (w_ar w1 (n_v vs 0) 22) 25 + v_iv (n_v vs 3) + 1 ≤ v_iv (n_v vs 7) := f2
  obtain ⟨f3, hf⟩ := fc_un (by decide) hf
  have f3 : w_el w1 (w_ar w1 (n_v vs 0) 22) (v_iv (n_v vs 4)).toNat = 1 := f3
  have a9 : v_ad (n_v vs 9) = w_ar ws (n_v vs 0) 22 := by rw [f1]; show _ = v_ad (w_fd ws _ _); rw [s1.2]
  rw [a9] at s1
  have c22 := r9; rw [a9] at c22
  have t3 : w_ar w1 (n_v vs 0) 22 = w_ar ws (n_v vs 0) 22 := by show v_ad (w_fd w1 _ _) = v_ad (w_fd ws _ _); rw [s1.2]
  rw [t3] at f3
  have g1 := sum_set s1.1 (n := 25) (by omega)
  have t2 : w_ar w1 (n_v vs 0) 22 = w_ar ws (n_v vs 0) 22 := by show v_ad (w_fd w1 _ _) = v_ad (w_fd ws _ _); rw [s1.2]
  rw [t2] at f2
  have key : 0 + 2 * w_sum ws (w_ar ws (n_v vs 0) 22) 25 + v_iv (n_v vs 11) + 1 ≤ v_iv (n_v vs 7) := by omega
  obtain ⟨x, ex, hx⟩ := iv_ex (ta := ta) (lo := 0) (hi := 51) (z := v_iv (n_v vs 7)) (by omega) (by omega) (by decide) (by decide)
  have ex2 : v_iv (Value.int x) = v_iv (n_v vs 7) := ex
  have e_0 : n_v (vs ++ [Value.int x]) 0 = n_v vs 0 := n_v_old (by rw [hl]; decide)
  have e_11 : n_v (vs ++ [Value.int x]) 11 = n_v vs 11 := n_v_old (by rw [hl]; decide)
  have e_13 : n_v (vs ++ [Value.int x]) 13 = Value.int x := n_v_new hl
  have nf0 : fc_1 (20, [13, 0, 11], [2, 22, 25, 0, 2]) ws (vs ++ [Value.int x]) := by
    refine ⟨fun n hn => ?_, ?_⟩
    · have hn : n ∈ [13, 0, 11] := hn
      rw [List.length_append, hl]
      simp only [List.mem_cons, List.not_mem_nil, or_false] at hn
      show n < 13 + 1; omega
    · show 0 + 2 * w_sum ws (w_ar ws (n_v (vs ++ [Value.int x]) 0) 22) 25 + v_iv (n_v (vs ++ [Value.int x]) 11) + 1 ≤ v_iv (n_v (vs ++ [Value.int x]) 13)
      rw [e_0]
      rw [e_11]
      rw [e_13]
      omega
  obtain ⟨x0, e0, _, _⟩ := tv_int t7 rfl
  have e1 : v_iv (n_v vs 7) = x0.toInt := by rw [e0]; rfl
  have ho : sy_ofs (vs ++ [Value.int x]) (13, 7, 0, 0) := by
    refine ⟨x, x0, by rw [List.getElem?_append_right (by rw [hl]; decide), hl]; rfl, ?_, ?_, ?_⟩
    · rw [List.getElem?_append_left (by rw [hl]; decide)]; exact n_v_some (by rw [hl]; decide) e0
    · show x0.toInt + 0 ≤ x.toInt; omega
    · show x.toInt ≤ x0.toInt + 0; omega
  exact ⟨fun q hq => (by cases hq), [Value.int x], ag_one hx, List.forall_mem_cons.mpr ⟨⟨by decide, nf0⟩, fun _ h => by cases h⟩, List.forall_mem_cons.mpr ⟨ho, fun _ h => by cases h⟩⟩
def o_Mo_isInCore_5 : or_T := (34, 10, [(0, (2, 0, 0, [139])), (3, (0, 0, 1, [])), (7, (0, 0, 51, []))], [(20, [7, 0, 3], [2, 22, 25, 0, 2])], [], [(0, 0, 51, [])], [(20, [10, 0, 3], [2, 22, 25, 0, 2])], [(10, 7, 0, 0)])
theorem oo_Mo_isInCore_5 {kA : Nat → ClassId} : or_ok kA GG o_Mo_isInCore_5 := by
  intro A ta ws vs hD hth hl hk hf
  have hl : vs.length = 10 := hl
  have hk : ∀ q ∈ ([(0, (2, 0, 0, [139])), (3, (0, 0, 1, [])), (7, (0, 0, 51, []))] : List (Nat × tv_T)), tv_ok ta q.2 (n_v vs q.1) := hk
  obtain ⟨t0, hk⟩ := List.forall_mem_cons.mp hk
  have t0 : tv_ok ta (2, 0, 0, [139]) (n_v vs 0) := t0
  have r0 : ta (v_ad (n_v vs 0)) = some 139 := tv_rg t0
  obtain ⟨t3, hk⟩ := List.forall_mem_cons.mp hk
  have t3 : tv_ok ta (0, 0, 1, []) (n_v vs 3) := t3
  have k3 : 0 ≤ v_iv (n_v vs 3) ∧ v_iv (n_v vs 3) ≤ 1 := tv_rng t3
  obtain ⟨t7, hk⟩ := List.forall_mem_cons.mp hk
  have t7 : tv_ok ta (0, 0, 51, []) (n_v vs 7) := t7
  have k7 : 0 ≤ v_iv (n_v vs 7) ∧ v_iv (n_v vs 7) ≤ 51 := tv_rng t7
  have hf : fc_ok [(20, [7, 0, 3], [2, 22, 25, 0, 2])] ta ws vs := hf
  obtain ⟨f0, hf⟩ := fc_un (by decide) hf
  have f0 : 0 + 2 * w_sum ws (w_ar ws (n_v vs 0) 22) 25 + v_iv (n_v vs 3) + 1 ≤ v_iv (n_v vs 7) := f0
  have key : 0 + 2 * w_sum ws (w_ar ws (n_v vs 0) 22) 25 + v_iv (n_v vs 3) + 1 ≤ v_iv (n_v vs 7) := by omega
  obtain ⟨x, ex, hx⟩ := iv_ex (ta := ta) (lo := 0) (hi := 51) (z := v_iv (n_v vs 7)) (by omega) (by omega) (by decide) (by decide)
  have ex2 : v_iv (Value.int x) = v_iv (n_v vs 7) := ex
  have e_0 : n_v (vs ++ [Value.int x]) 0 = n_v vs 0 := n_v_old (by rw [hl]; decide)
  have e_3 : n_v (vs ++ [Value.int x]) 3 = n_v vs 3 := n_v_old (by rw [hl]; decide)
  have e_10 : n_v (vs ++ [Value.int x]) 10 = Value.int x := n_v_new hl
  have nf0 : fc_1 (20, [10, 0, 3], [2, 22, 25, 0, 2]) ws (vs ++ [Value.int x]) := by
    refine ⟨fun n hn => ?_, ?_⟩
    · have hn : n ∈ [10, 0, 3] := hn
      rw [List.length_append, hl]
      simp only [List.mem_cons, List.not_mem_nil, or_false] at hn
      show n < 10 + 1; omega
    · show 0 + 2 * w_sum ws (w_ar ws (n_v (vs ++ [Value.int x]) 0) 22) 25 + v_iv (n_v (vs ++ [Value.int x]) 3) + 1 ≤ v_iv (n_v (vs ++ [Value.int x]) 10)
      rw [e_0]
      rw [e_3]
      rw [e_10]
      omega
  obtain ⟨x0, e0, _, _⟩ := tv_int t7 rfl
  have e1 : v_iv (n_v vs 7) = x0.toInt := by rw [e0]; rfl
  have ho : sy_ofs (vs ++ [Value.int x]) (10, 7, 0, 0) := by
    refine ⟨x, x0, by rw [List.getElem?_append_right (by rw [hl]; decide), hl]; rfl, ?_, ?_, ?_⟩
    · rw [List.getElem?_append_left (by rw [hl]; decide)]; exact n_v_some (by rw [hl]; decide) e0
    · show x0.toInt + 0 ≤ x.toInt; omega
    · show x.toInt ≤ x0.toInt + 0; omega
  exact ⟨fun q hq => (by cases hq), [Value.int x], ag_one hx, List.forall_mem_cons.mpr ⟨⟨by decide, nf0⟩, fun _ h => by cases h⟩, List.forall_mem_cons.mpr ⟨ho, fun _ h => by cases h⟩⟩
def n_Mo_isInCore_an : List an_T := [(2, [(0, (2, 0, 0, [139])), (1, (0, 0, 23, [])), (2, (0, -2147483648, 2147483647, [])), (3, (0, 0, 24, []))], [], (0, 0), [(0, 0, 99998), (1, 3, 24), (0, 0, 100000), (0, 0, 0), (0, 0, 0), (0, 0, 0), (0, 0, 0)], [(1, 3, -1000000000000, 23)], [], [], 0, [], []), (25, [(0, (2, 0, 0, [139])), (1, (0, 0, 23, [])), (2, (0, -2147483648, 2147483647, [])), (3, (0, 0, 1, []))], [], (0, 0), [(0, 0, 99975), (2, 4, 0), (0, 0, 100000), (0, 0, 0), (0, 0, 0), (0, 0, 0), (0, 0, 0)], [(1, 3, -1000000000000, 23), (3, 1, -1000000000000, 1)], [], [], 0, [(0, 0, 51, [])], [(20, [4, 0, 3], [1, 22, 25, 0, 2])]), (34, [(0, (2, 0, 0, [139])), (1, (0, 0, 23, [])), (2, (0, -2147483648, 2147483647, [])), (3, (0, 0, 1, [])), (4, (0, 0, 24, []))], [], (0, 0), [(0, 0, 99975), (2, 5, 0), (0, 0, 99966), (1, 4, 24), (0, 0, 100000), (0, 0, 0), (0, 0, 0)], [(1, 3, -1000000000000, 23), (1, 4, -1000000000000, 23), (3, 1, -1000000000000, 1), (3, 4, -1000000000000, 0)], [], [], 0, [(0, 0, 51, [])], [(20, [5, 0, 3], [2, 22, 25, 0, 2])]), (62, [(0, (2, 0, 0, [139])), (1, (0, 0, 23, [])), (2, (0, -2147483648, 2147483647, [])), (3, (0, 0, 1, [])), (4, (0, 0, 23, [])), (5, (0, 0, 48, [])), (6, (0, 0, 48, []))], [], (0, 0), [(0, 0, 99975), (2, 7, 0), (0, 0, 99966), (1, 4, 24), (0, 0, 99938), (1, 6, 48), (0, 0, 100000)], [(1, 3, -1000000000000, 23), (1, 4, -1000000000000, 23), (1, 5, -1000000000000, 23), (1, 6, -1000000000000, 23), (3, 1, -1000000000000, 1), (3, 4, -1000000000000, 0), (3, 5, -1000000000000, 1), (3, 6, -1000000000000, 1), (5, 6, -1000000000000, 0)], [], [], 0, [(0, 0, 51, [])], [(20, [7, 0, 3], [2, 22, 25, 0, 2]), (20, [0, 4], [5, 22, 1])])]
def t_Mo_isInCore_ct : ct_L := [(1, 401, e_Mo_edges), (1, 405, e_Mo_has), (1, 475, e_Mo_nodes), (1, 563, e_Mo_other)]
set_option maxRecDepth 100000 in
theorem c_Mo_isInCore {l : Launch} {D : va_G} {kA : Nat → ClassId} (h_Mo_edges : ct_ok l D kA GG y_Mo_edges z_Mo_edges e_Mo_edges) (h_Mo_has : ct_ok l D kA GG y_Mo_has z_Mo_has e_Mo_has) (h_Mo_nodes : ct_ok l D kA GG y_Mo_nodes z_Mo_nodes e_Mo_nodes) (h_Mo_other : ct_ok l D kA GG y_Mo_other z_Mo_other e_Mo_other) : ct_ok l D kA GG y_Mo_isInCore z_Mo_isInCore e_Mo_isInCore := chk_all_ok (FT := [(48, 13, 22)]) (PT := []) (CT := t_Mo_isInCore_ct) (KT := []) (NT := []) (AN := n_Mo_isInCore_an) (OT := [o_Mo_isInCore_0, o_Mo_isInCore_1, o_Mo_isInCore_2, o_Mo_isInCore_3, o_Mo_isInCore_4, o_Mo_isInCore_5]) 7 372 (List.forall_mem_cons.mpr ⟨oo_Mo_isInCore_0, List.forall_mem_cons.mpr ⟨oo_Mo_isInCore_1, List.forall_mem_cons.mpr ⟨oo_Mo_isInCore_2, List.forall_mem_cons.mpr ⟨oo_Mo_isInCore_3, List.forall_mem_cons.mpr ⟨oo_Mo_isInCore_4, List.forall_mem_cons.mpr ⟨oo_Mo_isInCore_5, List.forall_mem_nil _⟩⟩⟩⟩⟩⟩) (by decide +kernel) ⟨List.forall_mem_cons.mpr ⟨gf_Mo_48, List.forall_mem_nil _⟩, List.forall_mem_nil _, List.forall_mem_cons.mpr ⟨cl_virtual (y := y_Mo_edges) (ci := 13) rfl rfl ⟨_, _, rfl⟩ (by decide +kernel) h_Mo_edges wm_3037 wm_9 wm_3034 wm_3036 wv_13_6 ⟨by decide, by decide, by decide +kernel⟩ (by decide), List.forall_mem_cons.mpr ⟨cl_virtual (y := y_Mo_has) (ci := 13) rfl rfl ⟨_, _, rfl⟩ (by decide +kernel) h_Mo_has wm_3041 wm_9 wm_3038 wm_3040 wv_13_7 ⟨by decide, by decide, by decide +kernel⟩ (by decide), List.forall_mem_cons.mpr ⟨cl_virtual (y := y_Mo_nodes) (ci := 13) rfl rfl ⟨_, _, rfl⟩ (by decide +kernel) h_Mo_nodes wm_3025 wm_9 wm_3022 wm_3024 wv_13_3 ⟨by decide, by decide, by decide +kernel⟩ (by decide), List.forall_mem_cons.mpr ⟨cl_virtual (y := y_Mo_other) (ci := 13) rfl rfl ⟨_, _, rfl⟩ (by decide +kernel) h_Mo_other wm_3331 wm_9 wm_3328 wm_3330 wv_17_6 ⟨by decide, by decide, by decide +kernel⟩ (by decide), List.forall_mem_nil _⟩⟩⟩⟩, List.forall_mem_nil _, List.forall_mem_nil _⟩ (by decide +kernel)
def o_Mo_pieces_0 : or_T := (38, 4, [(0, (2, 0, 0, [139])), (3, (0, 1, 1, []))], [], [], [(0, 0, 12801, [])], [(20, [4, 0, 3], [1, 44, 80, 160, 2])], [])
theorem oo_Mo_pieces_0 {kA : Nat → ClassId} : or_ok kA GG o_Mo_pieces_0 := by
  intro A ta ws vs hD hth hl hk hf
  have hl : vs.length = 4 := hl
  have hk : ∀ q ∈ ([(0, (2, 0, 0, [139])), (3, (0, 1, 1, []))] : List (Nat × tv_T)), tv_ok ta q.2 (n_v vs q.1) := hk
  obtain ⟨t0, hk⟩ := List.forall_mem_cons.mp hk
  have t0 : tv_ok ta (2, 0, 0, [139]) (n_v vs 0) := t0
  have r0 : ta (v_ad (n_v vs 0)) = some 139 := tv_rg t0
  obtain ⟨t3, hk⟩ := List.forall_mem_cons.mp hk
  have t3 : tv_ok ta (0, 1, 1, []) (n_v vs 3) := t3
  have k3 : 1 ≤ v_iv (n_v vs 3) ∧ v_iv (n_v vs 3) ≤ 1 := tv_rng t3
  have ra : ta (w_ar ws (n_v vs 0) 44) = some 164 := tv_rg (th_fd hD hth r0 (g := GG_139) rfl (k := 44) (t := (2, 0, 0, [164])) rfl rfl)
  have bs := sum_bd (ws := ws) (a := w_ar ws (n_v vs 0) 44) (lo := (-1)) (hi := 79) (n := 80) (fun j hj => th_el hD hth ra (kd := 0) (n := 80) (m := 80) (rs := []) (L := []) rfl (by decide) (by omega))
  obtain ⟨x, ex, hx⟩ := iv_ex (ta := ta) (lo := 0) (hi := 12801) (z := 160 + 2 * w_sum ws (w_ar ws (n_v vs 0) 44) 80 + v_iv (n_v vs 3)) (by omega) (by omega) (by decide) (by decide)
  have ex2 : v_iv (Value.int x) = 160 + 2 * w_sum ws (w_ar ws (n_v vs 0) 44) 80 + v_iv (n_v vs 3) := ex
  have e_0 : n_v (vs ++ [Value.int x]) 0 = n_v vs 0 := n_v_old (by rw [hl]; decide)
  have e_3 : n_v (vs ++ [Value.int x]) 3 = n_v vs 3 := n_v_old (by rw [hl]; decide)
  have e_4 : n_v (vs ++ [Value.int x]) 4 = Value.int x := n_v_new hl
  have nf0 : fc_1 (20, [4, 0, 3], [1, 44, 80, 160, 2]) ws (vs ++ [Value.int x]) := by
    refine ⟨fun n hn => ?_, ?_⟩
    · have hn : n ∈ [4, 0, 3] := hn
      rw [List.length_append, hl]
      simp only [List.mem_cons, List.not_mem_nil, or_false] at hn
      show n < 4 + 1; omega
    · show v_iv (n_v (vs ++ [Value.int x]) 4) = 160 + 2 * w_sum ws (w_ar ws (n_v (vs ++ [Value.int x]) 0) 44) 80 + v_iv (n_v (vs ++ [Value.int x]) 3)
      rw [e_0]
      rw [e_3]
      rw [e_4]
      omega
  exact ⟨fun q hq => (by cases hq), [Value.int x], ag_one hx, List.forall_mem_cons.mpr ⟨⟨by decide, nf0⟩, fun _ h => by cases h⟩, fun _ h => by cases h⟩
def o_Mo_pieces_1 : or_T := (46, 5, [(0, (2, 0, 0, [139])), (1, (0, 1, 1, [])), (2, (0, 0, 12801, [])), (3, (0, 0, 0, []))], [(20, [2, 0, 1], [1, 44, 80, 160, 2])], [], [(0, 0, 12801, [])], [(20, [5, 0, 3], [2, 44, 80, 160, 2])], [(5, 2, 0, 0)])
theorem oo_Mo_pieces_1 {kA : Nat → ClassId} : or_ok kA GG o_Mo_pieces_1 := by
  intro A ta ws vs hD hth hl hk hf
  have hl : vs.length = 5 := hl
  have hk : ∀ q ∈ ([(0, (2, 0, 0, [139])), (1, (0, 1, 1, [])), (2, (0, 0, 12801, [])), (3, (0, 0, 0, []))] : List (Nat × tv_T)), tv_ok ta q.2 (n_v vs q.1) := hk
  obtain ⟨t0, hk⟩ := List.forall_mem_cons.mp hk
  have t0 : tv_ok ta (2, 0, 0, [139]) (n_v vs 0) := t0
  have r0 : ta (v_ad (n_v vs 0)) = some 139 := tv_rg t0
  obtain ⟨t1, hk⟩ := List.forall_mem_cons.mp hk
  have t1 : tv_ok ta (0, 1, 1, []) (n_v vs 1) := t1
  have k1 : 1 ≤ v_iv (n_v vs 1) ∧ v_iv (n_v vs 1) ≤ 1 := tv_rng t1
  obtain ⟨t2, hk⟩ := List.forall_mem_cons.mp hk
  have t2 : tv_ok ta (0, 0, 12801, []) (n_v vs 2) := t2
  have k2 : 0 ≤ v_iv (n_v vs 2) ∧ v_iv (n_v vs 2) ≤ 12801 := tv_rng t2
  obtain ⟨t3, hk⟩ := List.forall_mem_cons.mp hk
  have t3 : tv_ok ta (0, 0, 0, []) (n_v vs 3) := t3
  have k3 : 0 ≤ v_iv (n_v vs 3) ∧ v_iv (n_v vs 3) ≤ 0 := tv_rng t3
  have hf : fc_ok [(20, [2, 0, 1], [1, 44, 80, 160, 2])] ta ws vs := hf
  obtain ⟨f0, hf⟩ := fc_un (by decide) hf
  have f0 : v_iv (n_v vs 2) = 160 + 2 * w_sum ws (w_ar ws (n_v vs 0) 44) 80 + v_iv (n_v vs 1) := f0
  have key : 160 + 2 * w_sum ws (w_ar ws (n_v vs 0) 44) 80 + v_iv (n_v vs 3) + 1 ≤ v_iv (n_v vs 2) := by omega
  obtain ⟨x, ex, hx⟩ := iv_ex (ta := ta) (lo := 0) (hi := 12801) (z := v_iv (n_v vs 2)) (by omega) (by omega) (by decide) (by decide)
  have ex2 : v_iv (Value.int x) = v_iv (n_v vs 2) := ex
  have e_0 : n_v (vs ++ [Value.int x]) 0 = n_v vs 0 := n_v_old (by rw [hl]; decide)
  have e_3 : n_v (vs ++ [Value.int x]) 3 = n_v vs 3 := n_v_old (by rw [hl]; decide)
  have e_5 : n_v (vs ++ [Value.int x]) 5 = Value.int x := n_v_new hl
  have nf0 : fc_1 (20, [5, 0, 3], [2, 44, 80, 160, 2]) ws (vs ++ [Value.int x]) := by
    refine ⟨fun n hn => ?_, ?_⟩
    · have hn : n ∈ [5, 0, 3] := hn
      rw [List.length_append, hl]
      simp only [List.mem_cons, List.not_mem_nil, or_false] at hn
      show n < 5 + 1; omega
    · show 160 + 2 * w_sum ws (w_ar ws (n_v (vs ++ [Value.int x]) 0) 44) 80 + v_iv (n_v (vs ++ [Value.int x]) 3) + 1 ≤ v_iv (n_v (vs ++ [Value.int x]) 5)
      rw [e_0]
      rw [e_3]
      rw [e_5]
      omega
  obtain ⟨x0, e0, _, _⟩ := tv_int t2 rfl
  have e1 : v_iv (n_v vs 2) = x0.toInt := by rw [e0]; rfl
  have ho : sy_ofs (vs ++ [Value.int x]) (5, 2, 0, 0) := by
    refine ⟨x, x0, by rw [List.getElem?_append_right (by rw [hl]; decide), hl]; rfl, ?_, ?_, ?_⟩
    · rw [List.getElem?_append_left (by rw [hl]; decide)]; exact n_v_some (by rw [hl]; decide) e0
    · show x0.toInt + 0 ≤ x.toInt; omega
    · show x.toInt ≤ x0.toInt + 0; omega
  exact ⟨fun q hq => (by cases hq), [Value.int x], ag_one hx, List.forall_mem_cons.mpr ⟨⟨by decide, nf0⟩, fun _ h => by cases h⟩, List.forall_mem_cons.mpr ⟨ho, fun _ h => by cases h⟩⟩
def o_Mo_pieces_2 : or_T := (38, 5, [(0, (2, 0, 0, [139])), (1, (0, 0, 1, [])), (3, (0, 0, 12801, []))], [(20, [3, 0, 1], [2, 44, 80, 160, 2])], [], [(0, 0, 12801, [])], [(20, [5, 0, 1], [1, 44, 80, 160, 2])], [(5, 3, -1000000000000, -1)])
theorem oo_Mo_pieces_2 {kA : Nat → ClassId} : or_ok kA GG o_Mo_pieces_2 := by
  intro A ta ws vs hD hth hl hk hf
  have hl : vs.length = 5 := hl
  have hk : ∀ q ∈ ([(0, (2, 0, 0, [139])), (1, (0, 0, 1, [])), (3, (0, 0, 12801, []))] : List (Nat × tv_T)), tv_ok ta q.2 (n_v vs q.1) := hk
  obtain ⟨t0, hk⟩ := List.forall_mem_cons.mp hk
  have t0 : tv_ok ta (2, 0, 0, [139]) (n_v vs 0) := t0
  have r0 : ta (v_ad (n_v vs 0)) = some 139 := tv_rg t0
  obtain ⟨t1, hk⟩ := List.forall_mem_cons.mp hk
  have t1 : tv_ok ta (0, 0, 1, []) (n_v vs 1) := t1
  have k1 : 0 ≤ v_iv (n_v vs 1) ∧ v_iv (n_v vs 1) ≤ 1 := tv_rng t1
  obtain ⟨t3, hk⟩ := List.forall_mem_cons.mp hk
  have t3 : tv_ok ta (0, 0, 12801, []) (n_v vs 3) := t3
  have k3 : 0 ≤ v_iv (n_v vs 3) ∧ v_iv (n_v vs 3) ≤ 12801 := tv_rng t3
  have hf : fc_ok [(20, [3, 0, 1], [2, 44, 80, 160, 2])] ta ws vs := hf
  obtain ⟨f0, hf⟩ := fc_un (by decide) hf
  have f0 : 160 + 2 * w_sum ws (w_ar ws (n_v vs 0) 44) 80 + v_iv (n_v vs 1) + 1 ≤ v_iv (n_v vs 3) := f0
  have ra : ta (w_ar ws (n_v vs 0) 44) = some 164 := tv_rg (th_fd hD hth r0 (g := GG_139) rfl (k := 44) (t := (2, 0, 0, [164])) rfl rfl)
  have bs := sum_bd (ws := ws) (a := w_ar ws (n_v vs 0) 44) (lo := (-1)) (hi := 79) (n := 80) (fun j hj => th_el hD hth ra (kd := 0) (n := 80) (m := 80) (rs := []) (L := []) rfl (by decide) (by omega))
  obtain ⟨x, ex, hx⟩ := iv_ex (ta := ta) (lo := 0) (hi := 12801) (z := 160 + 2 * w_sum ws (w_ar ws (n_v vs 0) 44) 80 + v_iv (n_v vs 1)) (by omega) (by omega) (by decide) (by decide)
  have ex2 : v_iv (Value.int x) = 160 + 2 * w_sum ws (w_ar ws (n_v vs 0) 44) 80 + v_iv (n_v vs 1) := ex
  have e_0 : n_v (vs ++ [Value.int x]) 0 = n_v vs 0 := n_v_old (by rw [hl]; decide)
  have e_1 : n_v (vs ++ [Value.int x]) 1 = n_v vs 1 := n_v_old (by rw [hl]; decide)
  have e_5 : n_v (vs ++ [Value.int x]) 5 = Value.int x := n_v_new hl
  have nf0 : fc_1 (20, [5, 0, 1], [1, 44, 80, 160, 2]) ws (vs ++ [Value.int x]) := by
    refine ⟨fun n hn => ?_, ?_⟩
    · have hn : n ∈ [5, 0, 1] := hn
      rw [List.length_append, hl]
      simp only [List.mem_cons, List.not_mem_nil, or_false] at hn
      show n < 5 + 1; omega
    · show v_iv (n_v (vs ++ [Value.int x]) 5) = 160 + 2 * w_sum ws (w_ar ws (n_v (vs ++ [Value.int x]) 0) 44) 80 + v_iv (n_v (vs ++ [Value.int x]) 1)
      rw [e_0]
      rw [e_1]
      rw [e_5]
      omega
  obtain ⟨x0, e0, _, _⟩ := tv_int t3 rfl
  have e1 : v_iv (n_v vs 3) = x0.toInt := by rw [e0]; rfl
  have ho : sy_ofs (vs ++ [Value.int x]) (5, 3, -1000000000000, -1) := by
    refine ⟨x, x0, by rw [List.getElem?_append_right (by rw [hl]; decide), hl]; rfl, ?_, ?_, ?_⟩
    · rw [List.getElem?_append_left (by rw [hl]; decide)]; exact n_v_some (by rw [hl]; decide) e0
    · show x0.toInt + (-1000000000000) ≤ x.toInt; omega
    · show x.toInt ≤ x0.toInt + (-1); omega
  exact ⟨fun q hq => (by cases hq), [Value.int x], ag_one hx, List.forall_mem_cons.mpr ⟨⟨by decide, nf0⟩, fun _ h => by cases h⟩, List.forall_mem_cons.mpr ⟨ho, fun _ h => by cases h⟩⟩
def o_Mo_pieces_3 : or_T := (56, 6, [(0, (2, 0, 0, [139])), (1, (0, 0, 1, [])), (3, (0, 0, 12801, []))], [(20, [3, 0, 1], [2, 44, 80, 160, 2])], [], [(0, 0, 12801, [])], [(20, [6, 0, 1], [2, 44, 80, 160, 2])], [(6, 3, 0, 0)])
theorem oo_Mo_pieces_3 {kA : Nat → ClassId} : or_ok kA GG o_Mo_pieces_3 := by
  intro A ta ws vs hD hth hl hk hf
  have hl : vs.length = 6 := hl
  have hk : ∀ q ∈ ([(0, (2, 0, 0, [139])), (1, (0, 0, 1, [])), (3, (0, 0, 12801, []))] : List (Nat × tv_T)), tv_ok ta q.2 (n_v vs q.1) := hk
  obtain ⟨t0, hk⟩ := List.forall_mem_cons.mp hk
  have t0 : tv_ok ta (2, 0, 0, [139]) (n_v vs 0) := t0
  have r0 : ta (v_ad (n_v vs 0)) = some 139 := tv_rg t0
  obtain ⟨t1, hk⟩ := List.forall_mem_cons.mp hk
  have t1 : tv_ok ta (0, 0, 1, []) (n_v vs 1) := t1
  have k1 : 0 ≤ v_iv (n_v vs 1) ∧ v_iv (n_v vs 1) ≤ 1 := tv_rng t1
  obtain ⟨t3, hk⟩ := List.forall_mem_cons.mp hk
  have t3 : tv_ok ta (0, 0, 12801, []) (n_v vs 3) := t3
  have k3 : 0 ≤ v_iv (n_v vs 3) ∧ v_iv (n_v vs 3) ≤ 12801 := tv_rng t3
  have hf : fc_ok [(20, [3, 0, 1], [2, 44, 80, 160, 2])] ta ws vs := hf
  obtain ⟨f0, hf⟩ := fc_un (by decide) hf
  have f0 : 160 + 2 * w_sum ws (w_ar ws (n_v vs 0) 44) 80 + v_iv (n_v vs 1) + 1 ≤ v_iv (n_v vs 3) := f0
  have key : 160 + 2 * w_sum ws (w_ar ws (n_v vs 0) 44) 80 + v_iv (n_v vs 1) + 1 ≤ v_iv (n_v vs 3) := by omega
  obtain ⟨x, ex, hx⟩ := iv_ex (ta := ta) (lo := 0) (hi := 12801) (z := v_iv (n_v vs 3)) (by omega) (by omega) (by decide) (by decide)
  have ex2 : v_iv (Value.int x) = v_iv (n_v vs 3) := ex
  have e_0 : n_v (vs ++ [Value.int x]) 0 = n_v vs 0 := n_v_old (by rw [hl]; decide)
  have e_1 : n_v (vs ++ [Value.int x]) 1 = n_v vs 1 := n_v_old (by rw [hl]; decide)
  have e_6 : n_v (vs ++ [Value.int x]) 6 = Value.int x := n_v_new hl
  have nf0 : fc_1 (20, [6, 0, 1], [2, 44, 80, 160, 2]) ws (vs ++ [Value.int x]) := by
    refine ⟨fun n hn => ?_, ?_⟩
    · have hn : n ∈ [6, 0, 1] := hn
      rw [List.length_append, hl]
      simp only [List.mem_cons, List.not_mem_nil, or_false] at hn
      show n < 6 + 1; omega
    · show 160 + 2 * w_sum ws (w_ar ws (n_v (vs ++ [Value.int x]) 0) 44) 80 + v_iv (n_v (vs ++ [Value.int x]) 1) + 1 ≤ v_iv (n_v (vs ++ [Value.int x]) 6)
      rw [e_0]
      rw [e_1]
      rw [e_6]
      omega
  obtain ⟨x0, e0, _, _⟩ := tv_int t3 rfl
  have e1 : v_iv (n_v vs 3) = x0.toInt := by rw [e0]; rfl
  have ho : sy_ofs (vs ++ [Value.int x]) (6, 3, 0, 0) := by
    refine ⟨x, x0, by rw [List.getElem?_append_right (by rw [hl]; decide), hl]; rfl, ?_, ?_, ?_⟩
    · rw [List.getElem?_append_left (by rw [hl]; decide)]; exact n_v_some (by rw [hl]; decide) e0
    · show x0.toInt + 0 ≤ x.toInt; omega
    · show x.toInt ≤ x0.toInt + 0; omega
  exact ⟨fun q hq => (by cases hq), [Value.int x], ag_one hx, List.forall_mem_cons.mpr ⟨⟨by decide, nf0⟩, fun _ h => by cases h⟩, List.forall_mem_cons.mpr ⟨ho, fun _ h => by cases h⟩⟩
def o_Mo_pieces_4 : or_T := (46, 6, [(0, (2, 0, 0, [139])), (1, (0, 0, 1, [])), (4, (0, 0, 12801, []))], [(20, [4, 0, 1], [2, 44, 80, 160, 2])], [], [(0, 0, 12801, [])], [(20, [6, 0, 1], [2, 44, 80, 160, 2])], [(6, 4, 0, 0)])
theorem oo_Mo_pieces_4 {kA : Nat → ClassId} : or_ok kA GG o_Mo_pieces_4 := by
  intro A ta ws vs hD hth hl hk hf
  have hl : vs.length = 6 := hl
  have hk : ∀ q ∈ ([(0, (2, 0, 0, [139])), (1, (0, 0, 1, [])), (4, (0, 0, 12801, []))] : List (Nat × tv_T)), tv_ok ta q.2 (n_v vs q.1) := hk
  obtain ⟨t0, hk⟩ := List.forall_mem_cons.mp hk
  have t0 : tv_ok ta (2, 0, 0, [139]) (n_v vs 0) := t0
  have r0 : ta (v_ad (n_v vs 0)) = some 139 := tv_rg t0
  obtain ⟨t1, hk⟩ := List.forall_mem_cons.mp hk
  have t1 : tv_ok ta (0, 0, 1, []) (n_v vs 1) := t1
  have k1 : 0 ≤ v_iv (n_v vs 1) ∧ v_iv (n_v vs 1) ≤ 1 := tv_rng t1
  obtain ⟨t4, hk⟩ := List.forall_mem_cons.mp hk
  have t4 : tv_ok ta (0, 0, 12801, []) (n_v vs 4) := t4
  have k4 : 0 ≤ v_iv (n_v vs 4) ∧ v_iv (n_v vs 4) ≤ 12801 := tv_rng t4
  have hf : fc_ok [(20, [4, 0, 1], [2, 44, 80, 160, 2])] ta ws vs := hf
  obtain ⟨f0, hf⟩ := fc_un (by decide) hf
  have f0 : 160 + 2 * w_sum ws (w_ar ws (n_v vs 0) 44) 80 + v_iv (n_v vs 1) + 1 ≤ v_iv (n_v vs 4) := f0
  have key : 160 + 2 * w_sum ws (w_ar ws (n_v vs 0) 44) 80 + v_iv (n_v vs 1) + 1 ≤ v_iv (n_v vs 4) := by omega
  obtain ⟨x, ex, hx⟩ := iv_ex (ta := ta) (lo := 0) (hi := 12801) (z := v_iv (n_v vs 4)) (by omega) (by omega) (by decide) (by decide)
  have ex2 : v_iv (Value.int x) = v_iv (n_v vs 4) := ex
  have e_0 : n_v (vs ++ [Value.int x]) 0 = n_v vs 0 := n_v_old (by rw [hl]; decide)
  have e_1 : n_v (vs ++ [Value.int x]) 1 = n_v vs 1 := n_v_old (by rw [hl]; decide)
  have e_6 : n_v (vs ++ [Value.int x]) 6 = Value.int x := n_v_new hl
  have nf0 : fc_1 (20, [6, 0, 1], [2, 44, 80, 160, 2]) ws (vs ++ [Value.int x]) := by
    refine ⟨fun n hn => ?_, ?_⟩
    · have hn : n ∈ [6, 0, 1] := hn
      rw [List.length_append, hl]
      simp only [List.mem_cons, List.not_mem_nil, or_false] at hn
      show n < 6 + 1; omega
    · show 160 + 2 * w_sum ws (w_ar ws (n_v (vs ++ [Value.int x]) 0) 44) 80 + v_iv (n_v (vs ++ [Value.int x]) 1) + 1 ≤ v_iv (n_v (vs ++ [Value.int x]) 6)
      rw [e_0]
      rw [e_1]
      rw [e_6]
      omega
  obtain ⟨x0, e0, _, _⟩ := tv_int t4 rfl
  have e1 : v_iv (n_v vs 4) = x0.toInt := by rw [e0]; rfl
  have ho : sy_ofs (vs ++ [Value.int x]) (6, 4, 0, 0) := by
    refine ⟨x, x0, by rw [List.getElem?_append_right (by rw [hl]; decide), hl]; rfl, ?_, ?_, ?_⟩
    · rw [List.getElem?_append_left (by rw [hl]; decide)]; exact n_v_some (by rw [hl]; decide) e0
    · show x0.toInt + 0 ≤ x.toInt; omega
    · show x.toInt ≤ x0.toInt + 0; omega
  exact ⟨fun q hq => (by cases hq), [Value.int x], ag_one hx, List.forall_mem_cons.mpr ⟨⟨by decide, nf0⟩, fun _ h => by cases h⟩, List.forall_mem_cons.mpr ⟨ho, fun _ h => by cases h⟩⟩
def o_Mo_pieces_5 : or_T := (56, 16, [(0, (2, 0, 0, [139])), (1, (0, 0, 1, [])), (2, (0, 1, 79, [])), (3, (0, 0, 78, [])), (4, (0, 0, 12801, [])), (8, (2, 0, 0, [164])), (9, (0, -1, 79, [])), (10, (0, -1, 79, [])), (12, (0, -1, 79, [])), (13, (0, -1, 79, [])), (14, (0, 1, 1, []))], [(100, [8, 3, 13], []), (9, [8, 0], [44]), (100, [8, 2, 13], []), (9, [8, 0], [44]), (10, [13, 8, 3], []), (9, [8, 0], [44]), (10, [12, 8, 2], []), (9, [8, 0], [44]), (7, [9, 10], [1]), (10, [10, 8, 3], []), (9, [8, 0], [44]), (10, [9, 8, 2], []), (9, [8, 0], [44]), (20, [4, 0, 1], [2, 44, 80, 160, 2])], [], [], [(20, [4, 0, 14], [2, 44, 80, 160, 2])], [])
theorem oo_Mo_pieces_5 {kA : Nat → ClassId} : or_ok kA GG o_Mo_pieces_5 := by
  intro A ta ws vs hD hth hl hk hf
  have hl : vs.length = 16 := hl
  have hk : ∀ q ∈ ([(0, (2, 0, 0, [139])), (1, (0, 0, 1, [])), (2, (0, 1, 79, [])), (3, (0, 0, 78, [])), (4, (0, 0, 12801, [])), (8, (2, 0, 0, [164])), (9, (0, -1, 79, [])), (10, (0, -1, 79, [])), (12, (0, -1, 79, [])), (13, (0, -1, 79, [])), (14, (0, 1, 1, []))] : List (Nat × tv_T)), tv_ok ta q.2 (n_v vs q.1) := hk
  obtain ⟨t0, hk⟩ := List.forall_mem_cons.mp hk
  have t0 : tv_ok ta (2, 0, 0, [139]) (n_v vs 0) := t0
  have r0 : ta (v_ad (n_v vs 0)) = some 139 := tv_rg t0
  obtain ⟨t1, hk⟩ := List.forall_mem_cons.mp hk
  have t1 : tv_ok ta (0, 0, 1, []) (n_v vs 1) := t1
  have k1 : 0 ≤ v_iv (n_v vs 1) ∧ v_iv (n_v vs 1) ≤ 1 := tv_rng t1
  obtain ⟨t2, hk⟩ := List.forall_mem_cons.mp hk
  have t2 : tv_ok ta (0, 1, 79, []) (n_v vs 2) := t2
  have k2 : 1 ≤ v_iv (n_v vs 2) ∧ v_iv (n_v vs 2) ≤ 79 := tv_rng t2
  obtain ⟨t3, hk⟩ := List.forall_mem_cons.mp hk
  have t3 : tv_ok ta (0, 0, 78, []) (n_v vs 3) := t3
  have k3 : 0 ≤ v_iv (n_v vs 3) ∧ v_iv (n_v vs 3) ≤ 78 := tv_rng t3
  obtain ⟨t4, hk⟩ := List.forall_mem_cons.mp hk
  have t4 : tv_ok ta (0, 0, 12801, []) (n_v vs 4) := t4
  have k4 : 0 ≤ v_iv (n_v vs 4) ∧ v_iv (n_v vs 4) ≤ 12801 := tv_rng t4
  obtain ⟨t8, hk⟩ := List.forall_mem_cons.mp hk
  have t8 : tv_ok ta (2, 0, 0, [164]) (n_v vs 8) := t8
  have r8 : ta (v_ad (n_v vs 8)) = some 164 := tv_rg t8
  obtain ⟨t9, hk⟩ := List.forall_mem_cons.mp hk
  have t9 : tv_ok ta (0, -1, 79, []) (n_v vs 9) := t9
  have k9 : (-1) ≤ v_iv (n_v vs 9) ∧ v_iv (n_v vs 9) ≤ 79 := tv_rng t9
  obtain ⟨t10, hk⟩ := List.forall_mem_cons.mp hk
  have t10 : tv_ok ta (0, -1, 79, []) (n_v vs 10) := t10
  have k10 : (-1) ≤ v_iv (n_v vs 10) ∧ v_iv (n_v vs 10) ≤ 79 := tv_rng t10
  obtain ⟨t12, hk⟩ := List.forall_mem_cons.mp hk
  have t12 : tv_ok ta (0, -1, 79, []) (n_v vs 12) := t12
  have k12 : (-1) ≤ v_iv (n_v vs 12) ∧ v_iv (n_v vs 12) ≤ 79 := tv_rng t12
  obtain ⟨t13, hk⟩ := List.forall_mem_cons.mp hk
  have t13 : tv_ok ta (0, -1, 79, []) (n_v vs 13) := t13
  have k13 : (-1) ≤ v_iv (n_v vs 13) ∧ v_iv (n_v vs 13) ≤ 79 := tv_rng t13
  obtain ⟨t14, hk⟩ := List.forall_mem_cons.mp hk
  have t14 : tv_ok ta (0, 1, 1, []) (n_v vs 14) := t14
  have k14 : 1 ≤ v_iv (n_v vs 14) ∧ v_iv (n_v vs 14) ≤ 1 := tv_rng t14
  have hf : fc_ok [(100, [8, 3, 13], []), (9, [8, 0], [44]), (100, [8, 2, 13], []), (9, [8, 0], [44]), (10, [13, 8, 3], []), (9, [8, 0], [44]), (10, [12, 8, 2], []), (9, [8, 0], [44]), (7, [9, 10], [1]), (10, [10, 8, 3], []), (9, [8, 0], [44]), (10, [9, 8, 2], []), (9, [8, 0], [44]), (20, [4, 0, 1], [2, 44, 80, 160, 2])] ta ws vs := hf
  obtain ⟨ta1, w1, le1, ⟨_, s1⟩, hf⟩ := fc_us (by decide) hf
  have s1 : (∀ b j, w_el ws b j = if b = v_ad (n_v vs 8) ∧ j = (v_iv (n_v vs 3)).toNat then v_iv (n_v vs 13) else w_el w1 b j) ∧ ∀ b k, w_fd ws b k = w_fd w1 b k := s1
  obtain ⟨f1, hf⟩ := fc_un (by decide) hf
  have f1 : n_v vs 8 = w_fd w1 (v_ad (n_v vs 0)) 44 := f1
  obtain ⟨ta2, w2, le2, ⟨_, s2⟩, hf⟩ := fc_us (by decide) hf
  have s2 : (∀ b j, w_el w1 b j = if b = v_ad (n_v vs 8) ∧ j = (v_iv (n_v vs 2)).toNat then v_iv (n_v vs 13) else w_el w2 b j) ∧ ∀ b k, w_fd w1 b k = w_fd w2 b k := s2
  obtain ⟨f3, hf⟩ := fc_un (by decide) hf
  have f3 : n_v vs 8 = w_fd w2 (v_ad (n_v vs 0)) 44 := f3
  obtain ⟨f4, hf⟩ := fc_un (by decide) hf
  have f4 : v_iv (n_v vs 13) = w_el w2 (v_ad (n_v vs 8)) (v_iv (n_v vs 3)).toNat := f4
  obtain ⟨f5, hf⟩ := fc_un (by decide) hf
  have f5 : n_v vs 8 = w_fd w2 (v_ad (n_v vs 0)) 44 := f5
  obtain ⟨f6, hf⟩ := fc_un (by decide) hf
  have f6 : v_iv (n_v vs 12) = w_el w2 (v_ad (n_v vs 8)) (v_iv (n_v vs 2)).toNat := f6
  obtain ⟨f7, hf⟩ := fc_un (by decide) hf
  have f7 : n_v vs 8 = w_fd w2 (v_ad (n_v vs 0)) 44 := f7
  obtain ⟨f8, hf⟩ := fc_un (by decide) hf
  have f8 : v_iv (n_v vs 9) ≠ v_iv (n_v vs 10) := f8
  obtain ⟨f9, hf⟩ := fc_un (by decide) hf
  have f9 : v_iv (n_v vs 10) = w_el w2 (v_ad (n_v vs 8)) (v_iv (n_v vs 3)).toNat := f9
  obtain ⟨f10, hf⟩ := fc_un (by decide) hf
  have f10 : n_v vs 8 = w_fd w2 (v_ad (n_v vs 0)) 44 := f10
  obtain ⟨f11, hf⟩ := fc_un (by decide) hf
  have f11 : v_iv (n_v vs 9) = w_el w2 (v_ad (n_v vs 8)) (v_iv (n_v vs 2)).toNat := f11
  obtain ⟨f12, hf⟩ := fc_un (by decide) hf
  have f12 : n_v vs 8 = w_fd w2 (v_ad (n_v vs 0)) 44 := f12
  obtain ⟨f13, hf⟩ := fc_un (by decide) hf
  have f13 : 160 + 2 * w_sum w2 (w_ar w2 (n_v vs 0) 44) 80 + v_iv (n_v vs 1) + 1 ≤ v_iv (n_v vs 4) := f13
  have a8 : v_ad (n_v vs 8) = w_ar ws (n_v vs 0) 44 := by rw [f1]; show _ = v_ad (w_fd ws _ _); rw [s1.2]
  rw [a8] at s1
  rw [a8] at s2
  rw [a8] at f4
  rw [a8] at f6
  rw [a8] at f9
  rw [a8] at f11
  have c44 := r8; rw [a8] at c44
  have e1 : v_iv (n_v vs 12) = v_iv (n_v vs 9) := by rw [f6, f11]
  have e2 : v_iv (n_v vs 13) = v_iv (n_v vs 10) := by rw [f4, f9]
  have hne : (v_iv (n_v vs 2)).toNat ≠ (v_iv (n_v vs 3)).toNat := fun e => f8 (by rw [f11, f9, e])
  have g1 := sum_set s1.1 (n := 80) (by omega)
  have g2 := sum_set s2.1 (n := 80) (by omega)
  rw [el_ne s2.1 (Or.inr (fun e => hne e.symm)), ← f9] at g1
  rw [← f11] at g2
  have t2 : w_ar w2 (n_v vs 0) 44 = w_ar ws (n_v vs 0) 44 := by show v_ad (w_fd w2 _ _) = v_ad (w_fd ws _ _); rw [s1.2, s2.2]
  rw [t2] at f13
  have key : 160 + 2 * w_sum ws (w_ar ws (n_v vs 0) 44) 80 + v_iv (n_v vs 14) + 1 ≤ v_iv (n_v vs 4) := by omega
  have nf0 : fc_1 (20, [4, 0, 14], [2, 44, 80, 160, 2]) ws (vs) := by
    refine ⟨fun n hn => ?_, ?_⟩
    · have hn : n ∈ [4, 0, 14] := hn
      rw [hl]
      simp only [List.mem_cons, List.not_mem_nil, or_false] at hn
      show n < 16; omega
    · show 160 + 2 * w_sum ws (w_ar ws (n_v vs 0) 44) 80 + v_iv (n_v vs 14) + 1 ≤ v_iv (n_v vs 4)
      exact key
  refine ⟨fun q hq => (by cases hq), [], trivial, ?_, fun _ h => by cases h⟩
  rw [List.append_nil]
  exact List.forall_mem_cons.mpr ⟨⟨by decide, nf0⟩, fun _ h => by cases h⟩
def o_Mo_pieces_6 : or_T := (56, 16, [(0, (2, 0, 0, [139])), (1, (0, 0, 1, [])), (2, (0, 1, 79, [])), (3, (0, 0, 78, [])), (4, (0, 0, 12801, [])), (8, (2, 0, 0, [164])), (9, (0, -1, 79, [])), (10, (0, -1, 79, [])), (12, (0, -1, 78, [])), (13, (0, 0, 79, [])), (14, (0, 1, 1, []))], [(100, [8, 3, 12], []), (9, [8, 0], [44]), (100, [8, 2, 12], []), (9, [8, 0], [44]), (10, [13, 8, 3], []), (9, [8, 0], [44]), (10, [12, 8, 2], []), (9, [8, 0], [44]), (7, [9, 10], [1]), (10, [10, 8, 3], []), (9, [8, 0], [44]), (10, [9, 8, 2], []), (9, [8, 0], [44]), (20, [4, 0, 1], [2, 44, 80, 160, 2])], [], [], [(20, [4, 0, 14], [2, 44, 80, 160, 2])], [])
theorem oo_Mo_pieces_6 {kA : Nat → ClassId} : or_ok kA GG o_Mo_pieces_6 := by
  intro A ta ws vs hD hth hl hk hf
  have hl : vs.length = 16 := hl
  have hk : ∀ q ∈ ([(0, (2, 0, 0, [139])), (1, (0, 0, 1, [])), (2, (0, 1, 79, [])), (3, (0, 0, 78, [])), (4, (0, 0, 12801, [])), (8, (2, 0, 0, [164])), (9, (0, -1, 79, [])), (10, (0, -1, 79, [])), (12, (0, -1, 78, [])), (13, (0, 0, 79, [])), (14, (0, 1, 1, []))] : List (Nat × tv_T)), tv_ok ta q.2 (n_v vs q.1) := hk
  obtain ⟨t0, hk⟩ := List.forall_mem_cons.mp hk
  have t0 : tv_ok ta (2, 0, 0, [139]) (n_v vs 0) := t0
  have r0 : ta (v_ad (n_v vs 0)) = some 139 := tv_rg t0
  obtain ⟨t1, hk⟩ := List.forall_mem_cons.mp hk
  have t1 : tv_ok ta (0, 0, 1, []) (n_v vs 1) := t1
  have k1 : 0 ≤ v_iv (n_v vs 1) ∧ v_iv (n_v vs 1) ≤ 1 := tv_rng t1
  obtain ⟨t2, hk⟩ := List.forall_mem_cons.mp hk
  have t2 : tv_ok ta (0, 1, 79, []) (n_v vs 2) := t2
  have k2 : 1 ≤ v_iv (n_v vs 2) ∧ v_iv (n_v vs 2) ≤ 79 := tv_rng t2
  obtain ⟨t3, hk⟩ := List.forall_mem_cons.mp hk
  have t3 : tv_ok ta (0, 0, 78, []) (n_v vs 3) := t3
  have k3 : 0 ≤ v_iv (n_v vs 3) ∧ v_iv (n_v vs 3) ≤ 78 := tv_rng t3
  obtain ⟨t4, hk⟩ := List.forall_mem_cons.mp hk
  have t4 : tv_ok ta (0, 0, 12801, []) (n_v vs 4) := t4
  have k4 : 0 ≤ v_iv (n_v vs 4) ∧ v_iv (n_v vs 4) ≤ 12801 := tv_rng t4
  obtain ⟨t8, hk⟩ := List.forall_mem_cons.mp hk
  have t8 : tv_ok ta (2, 0, 0, [164]) (n_v vs 8) := t8
  have r8 : ta (v_ad (n_v vs 8)) = some 164 := tv_rg t8
  obtain ⟨t9, hk⟩ := List.forall_mem_cons.mp hk
  have t9 : tv_ok ta (0, -1, 79, []) (n_v vs 9) := t9
  have k9 : (-1) ≤ v_iv (n_v vs 9) ∧ v_iv (n_v vs 9) ≤ 79 := tv_rng t9
  obtain ⟨t10, hk⟩ := List.forall_mem_cons.mp hk
  have t10 : tv_ok ta (0, -1, 79, []) (n_v vs 10) := t10
  have k10 : (-1) ≤ v_iv (n_v vs 10) ∧ v_iv (n_v vs 10) ≤ 79 := tv_rng t10
  obtain ⟨t12, hk⟩ := List.forall_mem_cons.mp hk
  have t12 : tv_ok ta (0, -1, 78, []) (n_v vs 12) := t12
  have k12 : (-1) ≤ v_iv (n_v vs 12) ∧ v_iv (n_v vs 12) ≤ 78 := tv_rng t12
  obtain ⟨t13, hk⟩ := List.forall_mem_cons.mp hk
  have t13 : tv_ok ta (0, 0, 79, []) (n_v vs 13) := t13
  have k13 : 0 ≤ v_iv (n_v vs 13) ∧ v_iv (n_v vs 13) ≤ 79 := tv_rng t13
  obtain ⟨t14, hk⟩ := List.forall_mem_cons.mp hk
  have t14 : tv_ok ta (0, 1, 1, []) (n_v vs 14) := t14
  have k14 : 1 ≤ v_iv (n_v vs 14) ∧ v_iv (n_v vs 14) ≤ 1 := tv_rng t14
  have hf : fc_ok [(100, [8, 3, 12], []), (9, [8, 0], [44]), (100, [8, 2, 12], []), (9, [8, 0], [44]), (10, [13, 8, 3], []), (9, [8, 0], [44]), (10, [12, 8, 2], []), (9, [8, 0], [44]), (7, [9, 10], [1]), (10, [10, 8, 3], []), (9, [8, 0], [44]), (10, [9, 8, 2], []), (9, [8, 0], [44]), (20, [4, 0, 1], [2, 44, 80, 160, 2])] ta ws vs := hf
  obtain ⟨ta1, w1, le1, ⟨_, s1⟩, hf⟩ := fc_us (by decide) hf
  have s1 : (∀ b j, w_el ws b j = if b = v_ad (n_v vs 8) ∧ j = (v_iv (n_v vs 3)).toNat then v_iv (n_v vs 12) else w_el w1 b j) ∧ ∀ b k, w_fd ws b k = w_fd w1 b k := s1
  obtain ⟨f1, hf⟩ := fc_un (by decide) hf
  have f1 : n_v vs 8 = w_fd w1 (v_ad (n_v vs 0)) 44 := f1
  obtain ⟨ta2, w2, le2, ⟨_, s2⟩, hf⟩ := fc_us (by decide) hf
  have s2 : (∀ b j, w_el w1 b j = if b = v_ad (n_v vs 8) ∧ j = (v_iv (n_v vs 2)).toNat then v_iv (n_v vs 12) else w_el w2 b j) ∧ ∀ b k, w_fd w1 b k = w_fd w2 b k := s2
  obtain ⟨f3, hf⟩ := fc_un (by decide) hf
  have f3 : n_v vs 8 = w_fd w2 (v_ad (n_v vs 0)) 44 := f3
  obtain ⟨f4, hf⟩ := fc_un (by decide) hf
  have f4 : v_iv (n_v vs 13) = w_el w2 (v_ad (n_v vs 8)) (v_iv (n_v vs 3)).toNat := f4
  obtain ⟨f5, hf⟩ := fc_un (by decide) hf
  have f5 : n_v vs 8 = w_fd w2 (v_ad (n_v vs 0)) 44 := f5
  obtain ⟨f6, hf⟩ := fc_un (by decide) hf
  have f6 : v_iv (n_v vs 12) = w_el w2 (v_ad (n_v vs 8)) (v_iv (n_v vs 2)).toNat := f6
  obtain ⟨f7, hf⟩ := fc_un (by decide) hf
  have f7 : n_v vs 8 = w_fd w2 (v_ad (n_v vs 0)) 44 := f7
  obtain ⟨f8, hf⟩ := fc_un (by decide) hf
  have f8 : v_iv (n_v vs 9) ≠ v_iv (n_v vs 10) := f8
  obtain ⟨f9, hf⟩ := fc_un (by decide) hf
  have f9 : v_iv (n_v vs 10) = w_el w2 (v_ad (n_v vs 8)) (v_iv (n_v vs 3)).toNat := f9
  obtain ⟨f10, hf⟩ := fc_un (by decide) hf
  have f10 : n_v vs 8 = w_fd w2 (v_ad (n_v vs 0)) 44 := f10
  obtain ⟨f11, hf⟩ := fc_un (by decide) hf
  have f11 : v_iv (n_v vs 9) = w_el w2 (v_ad (n_v vs 8)) (v_iv (n_v vs 2)).toNat := f11
  obtain ⟨f12, hf⟩ := fc_un (by decide) hf
  have f12 : n_v vs 8 = w_fd w2 (v_ad (n_v vs 0)) 44 := f12
  obtain ⟨f13, hf⟩ := fc_un (by decide) hf
  have f13 : 160 + 2 * w_sum w2 (w_ar w2 (n_v vs 0) 44) 80 + v_iv (n_v vs 1) + 1 ≤ v_iv (n_v vs 4) := f13
  have a8 : v_ad (n_v vs 8) = w_ar ws (n_v vs 0) 44 := by rw [f1]; show _ = v_ad (w_fd ws _ _); rw [s1.2]
  rw [a8] at s1
  rw [a8] at s2
  rw [a8] at f4
  rw [a8] at f6
  rw [a8] at f9
  rw [a8] at f11
  have c44 := r8; rw [a8] at c44
  have e1 : v_iv (n_v vs 12) = v_iv (n_v vs 9) := by rw [f6, f11]
  have e2 : v_iv (n_v vs 13) = v_iv (n_v vs 10) := by rw [f4, f9]
  have hne : (v_iv (n_v vs 2)).toNat ≠ (v_iv (n_v vs 3)).toNat := fun e => f8 (by rw [f11, f9, e])
  have g1 := sum_set s1.1 (n := 80) (by omega)
  have g2 := sum_set s2.1 (n := 80) (by omega)
  rw [el_ne s2.1 (Or.inr (fun e => hne e.symm)), ← f9] at g1
  rw [← f11] at g2
  have t2 : w_ar w2 (n_v vs 0) 44 = w_ar ws (n_v vs 0) 44 := by show v_ad (w_fd w2 _ _) = v_ad (w_fd ws _ _); rw [s1.2, s2.2]
  rw [t2] at f13
  have key : 160 + 2 * w_sum ws (w_ar ws (n_v vs 0) 44) 80 + v_iv (n_v vs 14) + 1 ≤ v_iv (n_v vs 4) := by omega
  have nf0 : fc_1 (20, [4, 0, 14], [2, 44, 80, 160, 2]) ws (vs) := by
    refine ⟨fun n hn => ?_, ?_⟩
    · have hn : n ∈ [4, 0, 14] := hn
      rw [hl]
      simp only [List.mem_cons, List.not_mem_nil, or_false] at hn
      show n < 16; omega
    · show 160 + 2 * w_sum ws (w_ar ws (n_v vs 0) 44) 80 + v_iv (n_v vs 14) + 1 ≤ v_iv (n_v vs 4)
      exact key
  refine ⟨fun q hq => (by cases hq), [], trivial, ?_, fun _ h => by cases h⟩
  rw [List.append_nil]
  exact List.forall_mem_cons.mpr ⟨⟨by decide, nf0⟩, fun _ h => by cases h⟩
def n_Mo_pieces_an : List an_T := [(2, [(0, (2, 0, 0, [139])), (1, (0, 0, 80, []))], [], (0, 0), [(0, 0, 99998), (1, 1, 80), (0, 0, 100000), (0, 0, 0), (0, 0, 0), (0, 0, 0), (0, 0, 0)], [], [], [], 0, [], []), (38, [(0, (2, 0, 0, [139])), (1, (0, 0, 1, []))], [], (0, 0), [(0, 0, 99962), (2, 2, 0), (0, 0, 100000), (0, 0, 0), (0, 0, 0), (0, 0, 0), (0, 0, 0)], [], [], [], 0, [(0, 0, 12801, [])], [(20, [2, 0, 1], [1, 44, 80, 160, 2])]), (46, [(0, (2, 0, 0, [139])), (1, (0, 0, 1, [])), (2, (0, 0, 80, []))], [], (0, 0), [(0, 0, 99962), (2, 3, 0), (0, 0, 99954), (1, 2, 80), (0, 0, 100000), (0, 0, 0), (0, 0, 0)], [(1, 2, -1000000000000, 0)], [], [], 0, [(0, 0, 12801, [])], [(20, [3, 0, 1], [2, 44, 80, 160, 2])]), (56, [(0, (2, 0, 0, [139])), (1, (0, 0, 1, [])), (2, (0, 0, 79, [])), (3, (0, 0, 79, []))], [], (0, 0), [(0, 0, 99962), (2, 4, 0), (0, 0, 99954), (1, 2, 80), (0, 0, 99944), (1, 3, 79), (0, 0, 100000)], [(1, 2, -1000000000000, 0), (1, 3, -1000000000000, 1), (3, 2, -1000000000000, 0)], [], [], 0, [(0, 0, 12801, [])], [(20, [4, 0, 1], [2, 44, 80, 160, 2])])]
def t_Mo_pieces_ct : ct_L := [(0, 547, e_Mo_min), (1, 659, e_Mo_shareNew)]
set_option maxRecDepth 100000 in
theorem c_Mo_pieces {l : Launch} {D : va_G} {kA : Nat → ClassId} (h_Mo_min : ct_ok l D kA GG y_Mo_min z_Mo_min e_Mo_min) (h_Mo_shareNew : ct_ok l D kA GG y_Mo_shareNew z_Mo_shareNew e_Mo_shareNew) : ct_ok l D kA GG y_Mo_pieces z_Mo_pieces e_Mo_pieces := chk_all_ok (FT := [(84, 13, 43), (87, 13, 44), (597, 13, 32)]) (PT := []) (CT := t_Mo_pieces_ct) (KT := []) (NT := []) (AN := n_Mo_pieces_an) (OT := [o_Mo_pieces_0, o_Mo_pieces_1, o_Mo_pieces_2, o_Mo_pieces_3, o_Mo_pieces_4, o_Mo_pieces_5, o_Mo_pieces_6]) 7 464 (List.forall_mem_cons.mpr ⟨oo_Mo_pieces_0, List.forall_mem_cons.mpr ⟨oo_Mo_pieces_1, List.forall_mem_cons.mpr ⟨oo_Mo_pieces_2, List.forall_mem_cons.mpr ⟨oo_Mo_pieces_3, List.forall_mem_cons.mpr ⟨oo_Mo_pieces_4, List.forall_mem_cons.mpr ⟨oo_Mo_pieces_5, List.forall_mem_cons.mpr ⟨oo_Mo_pieces_6, List.forall_mem_nil _⟩⟩⟩⟩⟩⟩⟩) (by decide +kernel) ⟨List.forall_mem_cons.mpr ⟨gf_Mo_84, List.forall_mem_cons.mpr ⟨gf_Mo_87, List.forall_mem_cons.mpr ⟨gf_Mo_597, List.forall_mem_nil _⟩⟩⟩, List.forall_mem_nil _, List.forall_mem_cons.mpr ⟨cl_static (y := y_Mo_min) h_Mo_min wm_3174 wm_9 wm_3172 wm_3173 ⟨by decide, by decide, by decide +kernel⟩ (by decide), List.forall_mem_cons.mpr ⟨cl_virtual (y := y_Mo_shareNew) (ci := 13) rfl rfl ⟨_, _, rfl⟩ (by decide +kernel) h_Mo_shareNew wm_3211 wm_9 wm_3208 wm_3210 wv_15_11 ⟨by decide, by decide, by decide +kernel⟩ (by decide), List.forall_mem_nil _⟩⟩, List.forall_mem_nil _, List.forall_mem_nil _⟩ (by decide +kernel)
