def o_Mo_flood_0 : or_T := (34, 6, [(0, (2, 0, 0, [139])), (5, (0, 1, 1, []))], [], [], [(0, 0, 53, [])], [(20, [6, 0, 5], [1, 38, 26, 52, -2])], [])
theorem oo_Mo_flood_0 {kA : Nat → ClassId} : or_ok kA GG o_Mo_flood_0 := by
  intro A ta ws vs hD hth hl hk hf
  have hl : vs.length = 6 := hl
  have r0 : ta (v_ad (n_v vs 0)) = some 139 := tv_rg (hk (0, (2, 0, 0, [139])) (by decide))
  have k5 : 1 ≤ v_iv (n_v vs 5) ∧ v_iv (n_v vs 5) ≤ 1 := tv_rng (hk (5, (0, 1, 1, [])) (by decide))
  have ra : ta (w_ar ws (n_v vs 0) 38) = some 159 := tv_rg (th_fd hD hth r0 (g := GG_139) rfl (k := 38) (t := (2, 0, 0, [159])) rfl rfl)
  have bs := sum_bd (ws := ws) (a := w_ar ws (n_v vs 0) 38) (lo := 0) (hi := 1) (n := 26) (fun j hj => th_el hD hth ra (kd := 2) (n := 26) (m := 26) (rs := []) (L := []) rfl (by decide) (by omega))
  obtain ⟨x, ex, hx⟩ := iv_ex (ta := ta) (lo := 0) (hi := 53) (z := 52 + (-2) * w_sum ws (w_ar ws (n_v vs 0) 38) 26 + v_iv (n_v vs 5)) (by omega) (by omega) (by decide) (by decide)
  refine ⟨fun q hq => (by cases hq), [.int x], ag_one hx, fun f hf => ?_, fun q hq => (by cases hq)⟩
  · obtain rfl := List.mem_singleton.mp hf
    refine ⟨by decide, fun n hn => ?_, ?_⟩
    · have hn : n ∈ [6, 0, 5] := hn
      rw [List.length_append, hl]
      simp only [List.mem_cons, List.not_mem_nil, or_false] at hn
      show n < 6 + 1; omega
    · show v_iv (n_v (vs ++ [Value.int x]) 6) = 52 + (-2) * w_sum ws (w_ar ws (n_v (vs ++ [Value.int x]) 0) 38) 26 + v_iv (n_v (vs ++ [Value.int x]) 5)
      rw [n_v_new hl, n_v_old (by rw [hl]; decide), n_v_old (by rw [hl]; decide)]
      show _
      have ex2 : v_iv (Value.int x) = 52 + (-2) * w_sum ws (w_ar ws (n_v vs 0) 38) 26 + v_iv (n_v vs 5) := ex
      omega
def o_Mo_flood_1 : or_T := (43, 7, [(0, (2, 0, 0, [139])), (5, (0, 0, 0, [])), (3, (0, 1, 1, [])), (4, (0, 0, 53, []))], [(20, [4, 0, 3], [1, 38, 26, 52, -2])], [], [(0, 0, 53, [])], [(20, [7, 0, 5], [2, 38, 26, 52, -2])], [(7, 4, 0, 0)])
theorem oo_Mo_flood_1 {kA : Nat → ClassId} : or_ok kA GG o_Mo_flood_1 := by
  intro A ta ws vs hD hth hl hk hf
  have hl : vs.length = 7 := hl
  have r0 : ta (v_ad (n_v vs 0)) = some 139 := tv_rg (hk (0, (2, 0, 0, [139])) (by decide))
  have k5 : 0 ≤ v_iv (n_v vs 5) ∧ v_iv (n_v vs 5) ≤ 0 := tv_rng (hk (5, (0, 0, 0, [])) (by decide))
  have k3 : 1 ≤ v_iv (n_v vs 3) ∧ v_iv (n_v vs 3) ≤ 1 := tv_rng (hk (3, (0, 1, 1, [])) (by decide))
  have k4 : 0 ≤ v_iv (n_v vs 4) ∧ v_iv (n_v vs 4) ≤ 53 := tv_rng (hk (4, (0, 0, 53, [])) (by decide))
  have hf : fc_ok [(20, [4, 0, 3], [1, 38, 26, 52, -2])] ta ws vs := hf
  obtain ⟨f0, hf⟩ := fc_un (by decide) hf
  have f0 : v_iv (n_v vs 4) = 52 + (-2) * w_sum ws (w_ar ws (n_v vs 0) 38) 26 + v_iv (n_v vs 3) := f0
  obtain ⟨x, ex, hx⟩ := iv_ex (ta := ta) (lo := 0) (hi := 53) (z := v_iv (n_v vs 4)) (by omega) (by omega) (by decide) (by decide)
  refine ⟨fun q hq => (by cases hq), [.int x], ag_one hx, fun f hf => ?_, fun q hq => ?_⟩
  · obtain rfl := List.mem_singleton.mp hf
    refine ⟨by decide, fun n hn => ?_, ?_⟩
    · have hn : n ∈ [7, 0, 5] := hn
      rw [List.length_append, hl]
      simp only [List.mem_cons, List.not_mem_nil, or_false] at hn
      show n < 7 + 1; omega
    · show 52 + (-2) * w_sum ws (w_ar ws (n_v (vs ++ [Value.int x]) 0) 38) 26 + v_iv (n_v (vs ++ [Value.int x]) 5) + 1 ≤ v_iv (n_v (vs ++ [Value.int x]) 7)
      rw [n_v_new hl, n_v_old (by rw [hl]; decide), n_v_old (by rw [hl]; decide)]
      show _
      have ex2 : v_iv (Value.int x) = v_iv (n_v vs 4) := ex
      omega
  · obtain rfl := List.mem_singleton.mp hq
    obtain ⟨x0, e0, _, _⟩ := tv_int (hk (4, (0, 0, 53, [])) (by decide)) rfl
    have e1 : v_iv (n_v vs 4) = x0.toInt := by rw [e0]; rfl
    refine ⟨x, x0, by rw [List.getElem?_append_right (by rw [hl]; decide), hl]; rfl, ?_, ?_, ?_⟩
    · rw [List.getElem?_append_left (by rw [hl]; decide)]; exact n_v_some (by rw [hl]; decide) e0
    · show x0.toInt + 0 ≤ x.toInt; omega
    · show x.toInt ≤ x0.toInt + 0; omega
def o_Mo_flood_2 : or_T := (34, 7, [(0, (2, 0, 0, [139])), (3, (0, 0, 1, [])), (5, (0, 0, 53, []))], [(20, [5, 0, 3], [2, 38, 26, 52, -2])], [], [(0, 0, 53, [])], [(20, [7, 0, 3], [1, 38, 26, 52, -2])], [(7, 5, -1000000000000, -1)])
theorem oo_Mo_flood_2 {kA : Nat → ClassId} : or_ok kA GG o_Mo_flood_2 := by
  intro A ta ws vs hD hth hl hk hf
  have hl : vs.length = 7 := hl
  have r0 : ta (v_ad (n_v vs 0)) = some 139 := tv_rg (hk (0, (2, 0, 0, [139])) (by decide))
  have k3 : 0 ≤ v_iv (n_v vs 3) ∧ v_iv (n_v vs 3) ≤ 1 := tv_rng (hk (3, (0, 0, 1, [])) (by decide))
  have k5 : 0 ≤ v_iv (n_v vs 5) ∧ v_iv (n_v vs 5) ≤ 53 := tv_rng (hk (5, (0, 0, 53, [])) (by decide))
  have hf : fc_ok [(20, [5, 0, 3], [2, 38, 26, 52, -2])] ta ws vs := hf
  obtain ⟨f0, hf⟩ := fc_un (by decide) hf
  have f0 : 52 + (-2) * w_sum ws (w_ar ws (n_v vs 0) 38) 26 + v_iv (n_v vs 3) + 1 ≤ v_iv (n_v vs 5) := f0
  have ra : ta (w_ar ws (n_v vs 0) 38) = some 159 := tv_rg (th_fd hD hth r0 (g := GG_139) rfl (k := 38) (t := (2, 0, 0, [159])) rfl rfl)
  have bs := sum_bd (ws := ws) (a := w_ar ws (n_v vs 0) 38) (lo := 0) (hi := 1) (n := 26) (fun j hj => th_el hD hth ra (kd := 2) (n := 26) (m := 26) (rs := []) (L := []) rfl (by decide) (by omega))
  obtain ⟨x, ex, hx⟩ := iv_ex (ta := ta) (lo := 0) (hi := 53) (z := 52 + (-2) * w_sum ws (w_ar ws (n_v vs 0) 38) 26 + v_iv (n_v vs 3)) (by omega) (by omega) (by decide) (by decide)
  refine ⟨fun q hq => (by cases hq), [.int x], ag_one hx, fun f hf => ?_, fun q hq => ?_⟩
  · obtain rfl := List.mem_singleton.mp hf
    refine ⟨by decide, fun n hn => ?_, ?_⟩
    · have hn : n ∈ [7, 0, 3] := hn
      rw [List.length_append, hl]
      simp only [List.mem_cons, List.not_mem_nil, or_false] at hn
      show n < 7 + 1; omega
    · show v_iv (n_v (vs ++ [Value.int x]) 7) = 52 + (-2) * w_sum ws (w_ar ws (n_v (vs ++ [Value.int x]) 0) 38) 26 + v_iv (n_v (vs ++ [Value.int x]) 3)
      rw [n_v_new hl, n_v_old (by rw [hl]; decide), n_v_old (by rw [hl]; decide)]
      show _
      have ex2 : v_iv (Value.int x) = 52 + (-2) * w_sum ws (w_ar ws (n_v vs 0) 38) 26 + v_iv (n_v vs 3) := ex
      omega
  · obtain rfl := List.mem_singleton.mp hq
    obtain ⟨x0, e0, _, _⟩ := tv_int (hk (5, (0, 0, 53, [])) (by decide)) rfl
    have e1 : v_iv (n_v vs 5) = x0.toInt := by rw [e0]; rfl
    refine ⟨x, x0, by rw [List.getElem?_append_right (by rw [hl]; decide), hl]; rfl, ?_, ?_, ?_⟩
    · rw [List.getElem?_append_left (by rw [hl]; decide)]; exact n_v_some (by rw [hl]; decide) e0
    · show x0.toInt + (-1000000000000) ≤ x.toInt; omega
    · show x.toInt ≤ x0.toInt + (-1); omega
def o_Mo_flood_3 : or_T := (43, 24, [(0, (2, 0, 0, [139])), (2, (0, -1, 24, [])), (3, (0, 0, 1, [])), (4, (0, 0, 79, [])), (5, (0, 0, 53, [])), (6, (0, 1, 80, [])), (7, (2, 0, 0, [156])), (8, (0, 1, 1, [])), (9, (2, 0, 0, [154])), (10, (0, 0, 24, [])), (11, (2, 0, 0, [155])), (12, (0, 0, 24, [])), (13, (2, 0, 0, [159])), (14, (0, 0, 24, [])), (15, (0, 0, 1, [])), (16, (0, 0, 24, [])), (17, (0, 0, 1, [])), (18, (0, 0, 24, [])), (19, (0, 1, 1, [])), (20, (0, 0, 24, [])), (21, (0, 1, 1, [])), (22, (0, 1, 1, [])), (23, (0, 1, 80, []))], [(6, [23, 4], [1]), (100, [13, 20, 21], []), (10, [20, 11, 4], []), (9, [11, 0], [34]), (9, [13, 0], [38]), (100, [13, 18, 19], []), (10, [18, 9, 4], []), (9, [9, 0], [33]), (9, [13, 0], [38]), (7, [15, 17], [1]), (10, [17, 13, 16], []), (10, [16, 11, 4], []), (9, [11, 0], [34]), (9, [13, 0], [38]), (10, [15, 13, 14], []), (10, [14, 9, 4], []), (9, [9, 0], [33]), (9, [13, 0], [38]), (7, [12, 2], [1]), (10, [12, 11, 4], []), (9, [11, 0], [34]), (7, [10, 2], [1]), (10, [10, 9, 4], []), (9, [9, 0], [33]), (8, [8], [1]), (10, [8, 7, 4], []), (9, [7, 0], [35]), (7, [4, 6], [2]), (9, [6, 0], [32]), (20, [5, 0, 3], [2, 38, 26, 52, -2])], [], [], [(20, [5, 0, 22], [2, 38, 26, 52, -2])], [])
theorem oo_Mo_flood_3 {kA : Nat → ClassId} : or_ok kA GG o_Mo_flood_3 := by
  intro A ta ws vs hD hth hl hk hf
  have hl : vs.length = 24 := hl
  have r0 : ta (v_ad (n_v vs 0)) = some 139 := tv_rg (hk (0, (2, 0, 0, [139])) (by decide))
  have k2 : (-1) ≤ v_iv (n_v vs 2) ∧ v_iv (n_v vs 2) ≤ 24 := tv_rng (hk (2, (0, -1, 24, [])) (by decide))
  have k3 : 0 ≤ v_iv (n_v vs 3) ∧ v_iv (n_v vs 3) ≤ 1 := tv_rng (hk (3, (0, 0, 1, [])) (by decide))
  have k4 : 0 ≤ v_iv (n_v vs 4) ∧ v_iv (n_v vs 4) ≤ 79 := tv_rng (hk (4, (0, 0, 79, [])) (by decide))
  have k5 : 0 ≤ v_iv (n_v vs 5) ∧ v_iv (n_v vs 5) ≤ 53 := tv_rng (hk (5, (0, 0, 53, [])) (by decide))
  have k6 : 1 ≤ v_iv (n_v vs 6) ∧ v_iv (n_v vs 6) ≤ 80 := tv_rng (hk (6, (0, 1, 80, [])) (by decide))
  have r7 : ta (v_ad (n_v vs 7)) = some 156 := tv_rg (hk (7, (2, 0, 0, [156])) (by decide))
  have k8 : 1 ≤ v_iv (n_v vs 8) ∧ v_iv (n_v vs 8) ≤ 1 := tv_rng (hk (8, (0, 1, 1, [])) (by decide))
  have r9 : ta (v_ad (n_v vs 9)) = some 154 := tv_rg (hk (9, (2, 0, 0, [154])) (by decide))
  have k10 : 0 ≤ v_iv (n_v vs 10) ∧ v_iv (n_v vs 10) ≤ 24 := tv_rng (hk (10, (0, 0, 24, [])) (by decide))
  have r11 : ta (v_ad (n_v vs 11)) = some 155 := tv_rg (hk (11, (2, 0, 0, [155])) (by decide))
  have k12 : 0 ≤ v_iv (n_v vs 12) ∧ v_iv (n_v vs 12) ≤ 24 := tv_rng (hk (12, (0, 0, 24, [])) (by decide))
  have r13 : ta (v_ad (n_v vs 13)) = some 159 := tv_rg (hk (13, (2, 0, 0, [159])) (by decide))
  have k14 : 0 ≤ v_iv (n_v vs 14) ∧ v_iv (n_v vs 14) ≤ 24 := tv_rng (hk (14, (0, 0, 24, [])) (by decide))
  have k15 : 0 ≤ v_iv (n_v vs 15) ∧ v_iv (n_v vs 15) ≤ 1 := tv_rng (hk (15, (0, 0, 1, [])) (by decide))
  have k16 : 0 ≤ v_iv (n_v vs 16) ∧ v_iv (n_v vs 16) ≤ 24 := tv_rng (hk (16, (0, 0, 24, [])) (by decide))
  have k17 : 0 ≤ v_iv (n_v vs 17) ∧ v_iv (n_v vs 17) ≤ 1 := tv_rng (hk (17, (0, 0, 1, [])) (by decide))
  have k18 : 0 ≤ v_iv (n_v vs 18) ∧ v_iv (n_v vs 18) ≤ 24 := tv_rng (hk (18, (0, 0, 24, [])) (by decide))
  have k19 : 1 ≤ v_iv (n_v vs 19) ∧ v_iv (n_v vs 19) ≤ 1 := tv_rng (hk (19, (0, 1, 1, [])) (by decide))
  have k20 : 0 ≤ v_iv (n_v vs 20) ∧ v_iv (n_v vs 20) ≤ 24 := tv_rng (hk (20, (0, 0, 24, [])) (by decide))
  have k21 : 1 ≤ v_iv (n_v vs 21) ∧ v_iv (n_v vs 21) ≤ 1 := tv_rng (hk (21, (0, 1, 1, [])) (by decide))
  have k22 : 1 ≤ v_iv (n_v vs 22) ∧ v_iv (n_v vs 22) ≤ 1 := tv_rng (hk (22, (0, 1, 1, [])) (by decide))
  have k23 : 1 ≤ v_iv (n_v vs 23) ∧ v_iv (n_v vs 23) ≤ 80 := tv_rng (hk (23, (0, 1, 80, [])) (by decide))
  have hf : fc_ok [(6, [23, 4], [1]), (100, [13, 20, 21], []), (10, [20, 11, 4], []), (9, [11, 0], [34]), (9, [13, 0], [38]), (100, [13, 18, 19], []), (10, [18, 9, 4], []), (9, [9, 0], [33]), (9, [13, 0], [38]), (7, [15, 17], [1]), (10, [17, 13, 16], []), (10, [16, 11, 4], []), (9, [11, 0], [34]), (9, [13, 0], [38]), (10, [15, 13, 14], []), (10, [14, 9, 4], []), (9, [9, 0], [33]), (9, [13, 0], [38]), (7, [12, 2], [1]), (10, [12, 11, 4], []), (9, [11, 0], [34]), (7, [10, 2], [1]), (10, [10, 9, 4], []), (9, [9, 0], [33]), (8, [8], [1]), (10, [8, 7, 4], []), (9, [7, 0], [35]), (7, [4, 6], [2]), (9, [6, 0], [32]), (20, [5, 0, 3], [2, 38, 26, 52, -2])] ta ws vs := hf
  obtain ⟨f0, hf⟩ := fc_un (by decide) hf
  have f0 : v_iv (n_v vs 23) = v_iv (n_v vs 4) + 1 := f0
  obtain ⟨ta1, w1, le1, ⟨_, s1⟩, hf⟩ := fc_us (by decide) hf
  have s1 : (∀ b j, w_el ws b j = if b = v_ad (n_v vs 13) ∧ j = (v_iv (n_v vs 20)).toNat then v_iv (n_v vs 21) else w_el w1 b j) ∧ ∀ b k, w_fd ws b k = w_fd w1 b k := s1
  obtain ⟨f2, hf⟩ := fc_un (by decide) hf
  have f2 : v_iv (n_v vs 20) = w_el w1 (v_ad (n_v vs 11)) (v_iv (n_v vs 4)).toNat := f2
  obtain ⟨f3, hf⟩ := fc_un (by decide) hf
  have f3 : n_v vs 11 = w_fd w1 (v_ad (n_v vs 0)) 34 := f3
  obtain ⟨f4, hf⟩ := fc_un (by decide) hf
  have f4 : n_v vs 13 = w_fd w1 (v_ad (n_v vs 0)) 38 := f4
  obtain ⟨ta2, w2, le2, ⟨_, s2⟩, hf⟩ := fc_us (by decide) hf
  have s2 : (∀ b j, w_el w1 b j = if b = v_ad (n_v vs 13) ∧ j = (v_iv (n_v vs 18)).toNat then v_iv (n_v vs 19) else w_el w2 b j) ∧ ∀ b k, w_fd w1 b k = w_fd w2 b k := s2
  obtain ⟨f6, hf⟩ := fc_un (by decide) hf
  have f6 : v_iv (n_v vs 18) = w_el w2 (v_ad (n_v vs 9)) (v_iv (n_v vs 4)).toNat := f6
  obtain ⟨f7, hf⟩ := fc_un (by decide) hf
  have f7 : n_v vs 9 = w_fd w2 (v_ad (n_v vs 0)) 33 := f7
  obtain ⟨f8, hf⟩ := fc_un (by decide) hf
  have f8 : n_v vs 13 = w_fd w2 (v_ad (n_v vs 0)) 38 := f8
  obtain ⟨f9, hf⟩ := fc_un (by decide) hf
  have f9 : v_iv (n_v vs 15) ≠ v_iv (n_v vs 17) := f9
  obtain ⟨f10, hf⟩ := fc_un (by decide) hf
  have f10 : v_iv (n_v vs 17) = w_el w2 (v_ad (n_v vs 13)) (v_iv (n_v vs 16)).toNat := f10
  obtain ⟨f11, hf⟩ := fc_un (by decide) hf
  have f11 : v_iv (n_v vs 16) = w_el w2 (v_ad (n_v vs 11)) (v_iv (n_v vs 4)).toNat := f11
  obtain ⟨f12, hf⟩ := fc_un (by decide) hf
  have f12 : n_v vs 11 = w_fd w2 (v_ad (n_v vs 0)) 34 := f12
  obtain ⟨f13, hf⟩ := fc_un (by decide) hf
  have f13 : n_v vs 13 = w_fd w2 (v_ad (n_v vs 0)) 38 := f13
  obtain ⟨f14, hf⟩ := fc_un (by decide) hf
  have f14 : v_iv (n_v vs 15) = w_el w2 (v_ad (n_v vs 13)) (v_iv (n_v vs 14)).toNat := f14
  obtain ⟨f15, hf⟩ := fc_un (by decide) hf
  have f15 : v_iv (n_v vs 14) = w_el w2 (v_ad (n_v vs 9)) (v_iv (n_v vs 4)).toNat := f15
  obtain ⟨f16, hf⟩ := fc_un (by decide) hf
  have f16 : n_v vs 9 = w_fd w2 (v_ad (n_v vs 0)) 33 := f16
  obtain ⟨f17, hf⟩ := fc_un (by decide) hf
  have f17 : n_v vs 13 = w_fd w2 (v_ad (n_v vs 0)) 38 := f17
  obtain ⟨f18, hf⟩ := fc_un (by decide) hf
  have f18 : v_iv (n_v vs 12) ≠ v_iv (n_v vs 2) := f18
  obtain ⟨f19, hf⟩ := fc_un (by decide) hf
  have f19 : v_iv (n_v vs 12) = w_el w2 (v_ad (n_v vs 11)) (v_iv (n_v vs 4)).toNat := f19
  obtain ⟨f20, hf⟩ := fc_un (by decide) hf
  have f20 : n_v vs 11 = w_fd w2 (v_ad (n_v vs 0)) 34 := f20
  obtain ⟨f21, hf⟩ := fc_un (by decide) hf
  have f21 : v_iv (n_v vs 10) ≠ v_iv (n_v vs 2) := f21
  obtain ⟨f22, hf⟩ := fc_un (by decide) hf
  have f22 : v_iv (n_v vs 10) = w_el w2 (v_ad (n_v vs 9)) (v_iv (n_v vs 4)).toNat := f22
  obtain ⟨f23, hf⟩ := fc_un (by decide) hf
  have f23 : n_v vs 9 = w_fd w2 (v_ad (n_v vs 0)) 33 := f23
  obtain ⟨f24, hf⟩ := fc_un (by decide) hf
  have f24 : v_iv (n_v vs 8) ≠ 0 := f24
  obtain ⟨f25, hf⟩ := fc_un (by decide) hf
  have f25 : v_iv (n_v vs 8) = w_el w2 (v_ad (n_v vs 7)) (v_iv (n_v vs 4)).toNat := f25
  obtain ⟨f26, hf⟩ := fc_un (by decide) hf
  have f26 : n_v vs 7 = w_fd w2 (v_ad (n_v vs 0)) 35 := f26
  obtain ⟨f27, hf⟩ := fc_un (by decide) hf
  have f27 : v_iv (n_v vs 4) < v_iv (n_v vs 6) := f27
  obtain ⟨f28, hf⟩ := fc_un (by decide) hf
  have f28 : n_v vs 6 = w_fd w2 (v_ad (n_v vs 0)) 32 := f28
  obtain ⟨f29, hf⟩ := fc_un (by decide) hf
  have f29 : 52 + (-2) * w_sum w2 (w_ar w2 (n_v vs 0) 38) 26 + v_iv (n_v vs 3) + 1 ≤ v_iv (n_v vs 5) := f29
  refine ⟨fun q hq => (by cases hq), [], trivial, fun f hf => ?_, fun q hq => (by cases hq)⟩
  obtain rfl := List.mem_singleton.mp hf
  rw [List.append_nil]
  refine ⟨by decide, fun n hn => ?_, ?_⟩
  · have hn : n ∈ [5, 0, 22] := hn
    rw [hl]
    simp only [List.mem_cons, List.not_mem_nil, or_false] at hn
    show n < 24; omega
  · show 52 + (-2) * w_sum ws (w_ar ws (n_v vs 0) 38) 26 + v_iv (n_v vs 22) + 1 ≤ v_iv (n_v vs 5)
    have a11 : v_ad (n_v vs 11) = w_ar ws (n_v vs 0) 34 := by rw [f3]; show _ = v_ad (w_fd ws _ _); rw [s1.2]
    have a13 : v_ad (n_v vs 13) = w_ar ws (n_v vs 0) 38 := by rw [f4]; show _ = v_ad (w_fd ws _ _); rw [s1.2]
    have a9 : v_ad (n_v vs 9) = w_ar ws (n_v vs 0) 33 := by rw [f7]; show _ = v_ad (w_fd ws _ _); rw [s1.2, s2.2]
    have a7 : v_ad (n_v vs 7) = w_ar ws (n_v vs 0) 35 := by rw [f26]; show _ = v_ad (w_fd ws _ _); rw [s1.2, s2.2]
    rw [a13] at s1
    rw [a11] at f2
    rw [a13] at s2
    rw [a9] at f6
    rw [a13] at f10
    rw [a11] at f11
    rw [a13] at f14
    rw [a9] at f15
    rw [a11] at f19
    rw [a9] at f22
    rw [a7] at f25
    have c34 := r11; rw [a11] at c34
    have c38 := r13; rw [a13] at c38
    have c33 := r9; rw [a9] at c33
    have c35 := r7; rw [a7] at c35
    have ne_33_34 : w_ar ws (n_v vs 0) 33 ≠ w_ar ws (n_v vs 0) 34 := fun e => by rw [e, c34] at c33; exact absurd (Option.some.inj c33) (by decide)
    have ne_33_35 : w_ar ws (n_v vs 0) 33 ≠ w_ar ws (n_v vs 0) 35 := fun e => by rw [e, c35] at c33; exact absurd (Option.some.inj c33) (by decide)
    have ne_33_38 : w_ar ws (n_v vs 0) 33 ≠ w_ar ws (n_v vs 0) 38 := fun e => by rw [e, c38] at c33; exact absurd (Option.some.inj c33) (by decide)
    have ne_34_33 : w_ar ws (n_v vs 0) 34 ≠ w_ar ws (n_v vs 0) 33 := fun e => by rw [e, c33] at c34; exact absurd (Option.some.inj c34) (by decide)
    have ne_34_35 : w_ar ws (n_v vs 0) 34 ≠ w_ar ws (n_v vs 0) 35 := fun e => by rw [e, c35] at c34; exact absurd (Option.some.inj c34) (by decide)
    have ne_34_38 : w_ar ws (n_v vs 0) 34 ≠ w_ar ws (n_v vs 0) 38 := fun e => by rw [e, c38] at c34; exact absurd (Option.some.inj c34) (by decide)
    have ne_35_33 : w_ar ws (n_v vs 0) 35 ≠ w_ar ws (n_v vs 0) 33 := fun e => by rw [e, c33] at c35; exact absurd (Option.some.inj c35) (by decide)
    have ne_35_34 : w_ar ws (n_v vs 0) 35 ≠ w_ar ws (n_v vs 0) 34 := fun e => by rw [e, c34] at c35; exact absurd (Option.some.inj c35) (by decide)
    have ne_35_38 : w_ar ws (n_v vs 0) 35 ≠ w_ar ws (n_v vs 0) 38 := fun e => by rw [e, c38] at c35; exact absurd (Option.some.inj c35) (by decide)
    have ne_38_33 : w_ar ws (n_v vs 0) 38 ≠ w_ar ws (n_v vs 0) 33 := fun e => by rw [e, c33] at c38; exact absurd (Option.some.inj c38) (by decide)
    have ne_38_34 : w_ar ws (n_v vs 0) 38 ≠ w_ar ws (n_v vs 0) 34 := fun e => by rw [e, c34] at c38; exact absurd (Option.some.inj c38) (by decide)
    have ne_38_35 : w_ar ws (n_v vs 0) 38 ≠ w_ar ws (n_v vs 0) 35 := fun e => by rw [e, c35] at c38; exact absurd (Option.some.inj c38) (by decide)
    have ex : v_iv (n_v vs 18) = v_iv (n_v vs 14) := by rw [f6, f15]
    have ey : v_iv (n_v vs 20) = v_iv (n_v vs 16) := by rw [f2, el_ne s2.1 (Or.inl ne_34_38), ← f11]
    have hne : (v_iv (n_v vs 14)).toNat ≠ (v_iv (n_v vs 16)).toNat := fun e => f9 (by rw [f14, f10, e])
    have g1 := sum_set s1.1 (n := 26) (by omega)
    have g2 := sum_set s2.1 (n := 26) (by omega)
    rw [el_ne s2.1 (Or.inr (by rw [ex, ey]; exact fun e => hne e.symm)), ey, ← f10] at g1
    rw [ex, ← f14] at g2
    have t2 : w_ar w2 (n_v vs 0) 38 = w_ar ws (n_v vs 0) 38 := by show v_ad (w_fd w2 _ _) = v_ad (w_fd ws _ _); rw [s1.2, s2.2]
    rw [t2] at f29
    omega
def n_Mo_flood_an : List an_T := [(2, [(0, (2, 0, 0, [139])), (1, (0, 0, 24, [])), (2, (0, -1, 24, [])), (3, (0, 0, 25, []))], [], (0, 0), [(0, 0, 99998), (1, 3, 25), (0, 0, 100000), (0, 0, 0), (0, 0, 0)], [(1, 2, -1000000000000, 25), (1, 3, -1000000000000, 24), (2, 1, -1000000000000, 24), (2, 3, -1000000000000, 24)], [], [], 0, [], []), (34, [(0, (2, 0, 0, [139])), (1, (0, 0, 24, [])), (2, (0, -1, 24, [])), (3, (0, 0, 1, []))], [], (0, 0), [(0, 0, 99966), (2, 4, 0), (0, 0, 100000), (0, 0, 0), (0, 0, 0)], [(1, 2, -1000000000000, 25), (1, 3, -1000000000000, 24), (2, 1, -1000000000000, 24), (2, 3, -1000000000000, 24), (3, 1, -1000000000000, 1), (3, 2, -1000000000000, 2)], [], [], 0, [(0, 0, 53, [])], [(20, [4, 0, 3], [1, 38, 26, 52, -2])]), (43, [(0, (2, 0, 0, [139])), (1, (0, 0, 24, [])), (2, (0, -1, 24, [])), (3, (0, 0, 1, [])), (4, (0, 0, 80, []))], [], (0, 0), [(0, 0, 99966), (2, 5, 0), (0, 0, 99957), (1, 4, 80), (0, 0, 100000)], [(1, 2, -1000000000000, 25), (1, 3, -1000000000000, 24), (1, 4, -1000000000000, 24), (2, 1, -1000000000000, 24), (2, 3, -1000000000000, 24), (2, 4, -1000000000000, 24), (3, 1, -1000000000000, 1), (3, 2, -1000000000000, 2), (3, 4, -1000000000000, 0)], [], [], 0, [(0, 0, 53, [])], [(20, [5, 0, 3], [2, 38, 26, 52, -2])])]
def t_Mo_flood_ct : ct_L := []
set_option maxRecDepth 100000 in
theorem c_Mo_flood {l : Launch} {D : va_G} {kA : Nat → ClassId} : ct_ok l D kA GG y_Mo_flood z_Mo_flood e_Mo_flood := chk_all_ok (FT := [(57, 13, 33), (60, 13, 34), (63, 13, 35), (72, 13, 38), (594, 13, 31), (597, 13, 32)]) (PT := []) (CT := t_Mo_flood_ct) (KT := []) (AN := n_Mo_flood_an) (OT := [o_Mo_flood_0, o_Mo_flood_1, o_Mo_flood_2, o_Mo_flood_3]) 5 384 (List.forall_mem_cons.mpr ⟨oo_Mo_flood_0, List.forall_mem_cons.mpr ⟨oo_Mo_flood_1, List.forall_mem_cons.mpr ⟨oo_Mo_flood_2, List.forall_mem_cons.mpr ⟨oo_Mo_flood_3, List.forall_mem_nil _⟩⟩⟩⟩) (by decide +kernel) ⟨List.forall_mem_cons.mpr ⟨gf_Mo_57, List.forall_mem_cons.mpr ⟨gf_Mo_60, List.forall_mem_cons.mpr ⟨gf_Mo_63, List.forall_mem_cons.mpr ⟨gf_Mo_72, List.forall_mem_cons.mpr ⟨gf_Mo_594, List.forall_mem_cons.mpr ⟨gf_Mo_597, List.forall_mem_nil _⟩⟩⟩⟩⟩⟩, List.forall_mem_nil _, List.forall_mem_nil _, List.forall_mem_nil _⟩ (by decide +kernel)
