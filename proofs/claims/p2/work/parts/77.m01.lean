def n_Mo_closer_an : List an_T := []
def t_Mo_closer_ct : ct_L := []
set_option maxRecDepth 100000 in
theorem c_Mo_closer {l : Launch} {D : va_G} {kA : Nat → ClassId} : ct_ok l D kA GG y_Mo_closer z_Mo_closer e_Mo_closer := chk_all_ok (FT := [(81, 13, 42), (93, 13, 48)]) (PT := []) (CT := t_Mo_closer_ct) (KT := []) (NT := []) (AN := n_Mo_closer_an) (OT := []) 0 652 (List.forall_mem_nil _) (by decide +kernel) ⟨List.forall_mem_cons.mpr ⟨gf_Mo_81, List.forall_mem_cons.mpr ⟨gf_Mo_93, List.forall_mem_nil _⟩⟩, List.forall_mem_nil _, List.forall_mem_nil _, List.forall_mem_nil _, List.forall_mem_nil _⟩ (by decide +kernel)
def n_Mo_degree_an : List an_T := [(5, [(0, (2, 0, 0, [150])), (1, (5, 0, 66297, [539])), (2, (0, 0, 23, [])), (3, (0, -2147483648, 2147483647, [])), (4, (0, 0, 48, []))], [], (0, 0), [(0, 0, 99995), (1, 4, 48), (0, 0, 100000)], [], [], [], 0, [], [])]
def t_Mo_degree_ct : ct_L := []
set_option maxRecDepth 100000 in
theorem c_Mo_degree {l : Launch} {D : va_G} {kA : Nat → ClassId} : ct_ok l D kA GG y_Mo_degree z_Mo_degree e_Mo_degree := chk_all_ok (FT := [(16, 13, 2)]) (PT := []) (CT := t_Mo_degree_ct) (KT := []) (NT := []) (AN := n_Mo_degree_an) (OT := []) 3 208 (List.forall_mem_nil _) (by decide +kernel) ⟨List.forall_mem_cons.mpr ⟨gf_Mo_16, List.forall_mem_nil _⟩, List.forall_mem_nil _, List.forall_mem_nil _, List.forall_mem_nil _, List.forall_mem_nil _⟩ (by decide +kernel)
def n_Mo_dx_an : List an_T := []
def t_Mo_dx_ct : ct_L := []
set_option maxRecDepth 100000 in
theorem c_Mo_dx {l : Launch} {D : va_G} {kA : Nat → ClassId} : ct_ok l D kA GG y_Mo_dx z_Mo_dx e_Mo_dx := chk_all_ok (FT := []) (PT := []) (CT := t_Mo_dx_ct) (KT := []) (NT := []) (AN := n_Mo_dx_an) (OT := []) 0 200 (List.forall_mem_nil _) (by decide +kernel) ⟨List.forall_mem_nil _, List.forall_mem_nil _, List.forall_mem_nil _, List.forall_mem_nil _, List.forall_mem_nil _⟩ (by decide +kernel)
def n_Mo_dy_an : List an_T := []
def t_Mo_dy_ct : ct_L := []
set_option maxRecDepth 100000 in
theorem c_Mo_dy {l : Launch} {D : va_G} {kA : Nat → ClassId} : ct_ok l D kA GG y_Mo_dy z_Mo_dy e_Mo_dy := chk_all_ok (FT := []) (PT := []) (CT := t_Mo_dy_ct) (KT := []) (NT := []) (AN := n_Mo_dy_an) (OT := []) 0 200 (List.forall_mem_nil _) (by decide +kernel) ⟨List.forall_mem_nil _, List.forall_mem_nil _, List.forall_mem_nil _, List.forall_mem_nil _, List.forall_mem_nil _⟩ (by decide +kernel)
def n_Mo_edgeWay_an : List an_T := [(3, [(0, (2, 0, 0, [150])), (1, (5, 0, 66297, [539])), (2, (0, -1, 23, [])), (3, (0, 0, 23, [])), (4, (0, 0, 48, []))], [], (0, 0), [(0, 0, 99997), (1, 4, 48), (0, 0, 100000)], [], [], [], 0, [], [])]
def t_Mo_edgeWay_ct : ct_L := []
set_option maxRecDepth 100000 in
theorem c_Mo_edgeWay {l : Launch} {D : va_G} {kA : Nat → ClassId} : ct_ok l D kA GG y_Mo_edgeWay z_Mo_edgeWay e_Mo_edgeWay := chk_all_ok (FT := [(16, 13, 2)]) (PT := []) (CT := t_Mo_edgeWay_ct) (KT := []) (NT := []) (AN := n_Mo_edgeWay_an) (OT := []) 3 344 (List.forall_mem_nil _) (by decide +kernel) ⟨List.forall_mem_cons.mpr ⟨gf_Mo_16, List.forall_mem_nil _⟩, List.forall_mem_nil _, List.forall_mem_nil _, List.forall_mem_nil _, List.forall_mem_nil _⟩ (by decide +kernel)
def n_Mo_edges_an : List an_T := []
def t_Mo_edges_ct : ct_L := []
set_option maxRecDepth 100000 in
theorem c_Mo_edges {l : Launch} {D : va_G} {kA : Nat → ClassId} : ct_ok l D kA GG y_Mo_edges z_Mo_edges e_Mo_edges := chk_all_ok (FT := [(16, 13, 2), (391, 13, 5)]) (PT := []) (CT := t_Mo_edges_ct) (KT := []) (NT := []) (AN := n_Mo_edges_an) (OT := []) 0 200 (List.forall_mem_nil _) (by decide +kernel) ⟨List.forall_mem_cons.mpr ⟨gf_Mo_16, List.forall_mem_cons.mpr ⟨gf_Mo_391, List.forall_mem_nil _⟩⟩, List.forall_mem_nil _, List.forall_mem_nil _, List.forall_mem_nil _, List.forall_mem_nil _⟩ (by decide +kernel)
def n_Mo_feed_an : List an_T := [(18, [(0, (2, 0, 0, [150])), (1, (0, -2147483648, 2147483647, [])), (2, (0, -2147483648, 2147483647, [])), (3, (0, -2147483648, 2147483647, [])), (4, (0, -2147483648, 2147483647, [])), (5, (0, -2147483648, 2147483647, [])), (6, (0, 0, 20, []))], [], (0, 0), [(0, 0, 99982), (1, 6, 20), (0, 0, 100000)], [(6, 7, -1000000000000, 0), (7, 6, -1000000000000, 1980)], [((0, 0), (0, 0, 2000, []))], [], 0, [], [])]
def t_Mo_feed_ct : ct_L := []
set_option maxRecDepth 100000 in
theorem c_Mo_feed {l : Launch} {D : va_G} {kA : Nat → ClassId} : ct_ok l D kA GG y_Mo_feed z_Mo_feed e_Mo_feed := chk_all_ok (FT := [(9, 13, 1), (383, 13, 0)]) (PT := [(383, 13, 0, .int)]) (CT := t_Mo_feed_ct) (KT := []) (NT := []) (AN := n_Mo_feed_an) (OT := []) 3 628 (List.forall_mem_nil _) (by decide +kernel) ⟨List.forall_mem_cons.mpr ⟨gf_Mo_9, List.forall_mem_cons.mpr ⟨gf_Mo_383, List.forall_mem_nil _⟩⟩, List.forall_mem_cons.mpr ⟨pf_Mo_383, List.forall_mem_nil _⟩, List.forall_mem_nil _, List.forall_mem_nil _, List.forall_mem_nil _⟩ (by decide +kernel)
def n_Mo_fitsFace_an : List an_T := []
def t_Mo_fitsFace_ct : ct_L := []
set_option maxRecDepth 100000 in
theorem c_Mo_fitsFace {l : Launch} {D : va_G} {kA : Nat → ClassId} : ct_ok l D kA GG y_Mo_fitsFace z_Mo_fitsFace e_Mo_fitsFace := chk_all_ok (FT := [(96, 13, 50), (99, 13, 51)]) (PT := []) (CT := t_Mo_fitsFace_ct) (KT := []) (NT := []) (AN := n_Mo_fitsFace_an) (OT := []) 0 200 (List.forall_mem_nil _) (by decide +kernel) ⟨List.forall_mem_cons.mpr ⟨gf_Mo_96, List.forall_mem_cons.mpr ⟨gf_Mo_99, List.forall_mem_nil _⟩⟩, List.forall_mem_nil _, List.forall_mem_nil _, List.forall_mem_nil _, List.forall_mem_nil _⟩ (by decide +kernel)
def o_Mo_flood_0 : or_T := (34, 6, [(0, (2, 0, 0, [150])), (5, (0, 1, 1, []))], [], [], [(0, 0, 53, [])], [(20, [6, 0, 5], [1, 38, 26, 52, -2])], [], [])
theorem oo_Mo_flood_0 {kA : Nat → ClassId} : or_ok kA GG o_Mo_flood_0 := by
  intro A ta ws vs hD hth hl hk hds hf
  have hl : vs.length = 6 := hl
  have hk : ∀ q ∈ ([(0, (2, 0, 0, [150])), (5, (0, 1, 1, []))] : List (Nat × tv_T)), tv_ok ta q.2 (n_v vs q.1) := hk
  obtain ⟨t0, hk⟩ := List.forall_mem_cons.mp hk
  have t0 : tv_ok ta (2, 0, 0, [150]) (n_v vs 0) := t0
  have r0 : ta (v_ad (n_v vs 0)) = some 150 := tv_rg t0
  obtain ⟨t5, hk⟩ := List.forall_mem_cons.mp hk
  have t5 : tv_ok ta (0, 1, 1, []) (n_v vs 5) := t5
  have k5 : 1 ≤ v_iv (n_v vs 5) ∧ v_iv (n_v vs 5) ≤ 1 := tv_rng t5
  have ra : ta (w_ar ws (n_v vs 0) 38) = some 170 := tv_rg (th_fd hD hth r0 (g := GG_150) rfl (k := 38) (t := (2, 0, 0, [170])) rfl rfl)
  have bs := sum_bd (ws := ws) (a := w_ar ws (n_v vs 0) 38) (lo := 0) (hi := 1) (n := 26) (fun j hj => th_el hD hth ra (kd := 2) (n := 26) (m := 26) (rs := []) (L := []) rfl (by decide) (by omega))
  obtain ⟨x, ex, hx⟩ := iv_ex (ta := ta) (lo := 0) (hi := 53) (z := 52 + (-2) * w_sum ws (w_ar ws (n_v vs 0) 38) 26 + v_iv (n_v vs 5)) (by omega) (by omega) (by decide) (by decide)
  have ex2 : v_iv (Value.int x) = 52 + (-2) * w_sum ws (w_ar ws (n_v vs 0) 38) 26 + v_iv (n_v vs 5) := ex
  have e_0 : n_v (vs ++ [Value.int x]) 0 = n_v vs 0 := n_v_old (by rw [hl]; decide)
  have e_5 : n_v (vs ++ [Value.int x]) 5 = n_v vs 5 := n_v_old (by rw [hl]; decide)
  have e_6 : n_v (vs ++ [Value.int x]) 6 = Value.int x := n_v_new hl
  have nf0 : fc_1 (20, [6, 0, 5], [1, 38, 26, 52, -2]) ws (vs ++ [Value.int x]) := by
    refine ⟨fun n hn => ?_, ?_⟩
    · have hn : n ∈ [6, 0, 5] := hn
      rw [List.length_append, hl]
      simp only [List.mem_cons, List.not_mem_nil, or_false] at hn
      show n < 6 + 1; omega
    · show v_iv (n_v (vs ++ [Value.int x]) 6) = 52 + (-2) * w_sum ws (w_ar ws (n_v (vs ++ [Value.int x]) 0) 38) 26 + v_iv (n_v (vs ++ [Value.int x]) 5)
      rw [e_0]
      rw [e_5]
      rw [e_6]
      omega
  exact ⟨fun q hq => (by cases hq), [Value.int x], ag_one hx, List.forall_mem_cons.mpr ⟨⟨by decide, nf0⟩, (fun _ h => (by cases h))⟩, (fun _ h => (by cases h))⟩
def o_Mo_flood_1 : or_T := (43, 7, [(0, (2, 0, 0, [150])), (3, (0, 1, 1, [])), (4, (0, 0, 53, [])), (5, (0, 0, 0, []))], [(20, [4, 0, 3], [1, 38, 26, 52, -2])], [], [(0, 0, 53, [])], [(20, [7, 0, 5], [2, 38, 26, 52, -2])], [(7, 4, 0, 0)], [])
theorem oo_Mo_flood_1 {kA : Nat → ClassId} : or_ok kA GG o_Mo_flood_1 := by
  intro A ta ws vs hD hth hl hk hds hf
  have hl : vs.length = 7 := hl
  have hk : ∀ q ∈ ([(0, (2, 0, 0, [150])), (3, (0, 1, 1, [])), (4, (0, 0, 53, [])), (5, (0, 0, 0, []))] : List (Nat × tv_T)), tv_ok ta q.2 (n_v vs q.1) := hk
  obtain ⟨t0, hk⟩ := List.forall_mem_cons.mp hk
  have t0 : tv_ok ta (2, 0, 0, [150]) (n_v vs 0) := t0
  have r0 : ta (v_ad (n_v vs 0)) = some 150 := tv_rg t0
  obtain ⟨t3, hk⟩ := List.forall_mem_cons.mp hk
  have t3 : tv_ok ta (0, 1, 1, []) (n_v vs 3) := t3
  have k3 : 1 ≤ v_iv (n_v vs 3) ∧ v_iv (n_v vs 3) ≤ 1 := tv_rng t3
  obtain ⟨t4, hk⟩ := List.forall_mem_cons.mp hk
  have t4 : tv_ok ta (0, 0, 53, []) (n_v vs 4) := t4
  have k4 : 0 ≤ v_iv (n_v vs 4) ∧ v_iv (n_v vs 4) ≤ 53 := tv_rng t4
  obtain ⟨t5, hk⟩ := List.forall_mem_cons.mp hk
  have t5 : tv_ok ta (0, 0, 0, []) (n_v vs 5) := t5
  have k5 : 0 ≤ v_iv (n_v vs 5) ∧ v_iv (n_v vs 5) ≤ 0 := tv_rng t5
  have hf : fc_ok [(20, [4, 0, 3], [1, 38, 26, 52, -2])] ta ws vs := hf
  obtain ⟨f0, hf⟩ := fc_un (by decide) hf
  have f0 : v_iv (n_v vs 4) = 52 + (-2) * w_sum ws (w_ar ws (n_v vs 0) 38) 26 + v_iv (n_v vs 3) := f0
  have key : 52 + (-2) * w_sum ws (w_ar ws (n_v vs 0) 38) 26 + v_iv (n_v vs 5) + 1 ≤ v_iv (n_v vs 4) := by omega
  obtain ⟨x, ex, hx⟩ := iv_ex (ta := ta) (lo := 0) (hi := 53) (z := v_iv (n_v vs 4)) (by omega) (by omega) (by decide) (by decide)
  have ex2 : v_iv (Value.int x) = v_iv (n_v vs 4) := ex
  have e_0 : n_v (vs ++ [Value.int x]) 0 = n_v vs 0 := n_v_old (by rw [hl]; decide)
  have e_5 : n_v (vs ++ [Value.int x]) 5 = n_v vs 5 := n_v_old (by rw [hl]; decide)
  have e_7 : n_v (vs ++ [Value.int x]) 7 = Value.int x := n_v_new hl
  have nf0 : fc_1 (20, [7, 0, 5], [2, 38, 26, 52, -2]) ws (vs ++ [Value.int x]) := by
    refine ⟨fun n hn => ?_, ?_⟩
    · have hn : n ∈ [7, 0, 5] := hn
      rw [List.length_append, hl]
      simp only [List.mem_cons, List.not_mem_nil, or_false] at hn
      show n < 7 + 1; omega
    · show 52 + (-2) * w_sum ws (w_ar ws (n_v (vs ++ [Value.int x]) 0) 38) 26 + v_iv (n_v (vs ++ [Value.int x]) 5) + 1 ≤ v_iv (n_v (vs ++ [Value.int x]) 7)
      rw [e_0]
      rw [e_5]
      rw [e_7]
      omega
  obtain ⟨x0, e0, _, _⟩ := tv_int t4 rfl
  have e1 : v_iv (n_v vs 4) = x0.toInt := by rw [e0]; rfl
  have ho : sy_ofs (vs ++ [Value.int x]) (7, 4, 0, 0) := by
    refine ⟨x, x0, by rw [List.getElem?_append_right (by rw [hl]; decide), hl]; rfl, ?_, ?_, ?_⟩
    · rw [List.getElem?_append_left (by rw [hl]; decide)]; exact n_v_some (by rw [hl]; decide) e0
    · show x0.toInt + 0 ≤ x.toInt; omega
    · show x.toInt ≤ x0.toInt + 0; omega
  exact ⟨fun q hq => (by cases hq), [Value.int x], ag_one hx, List.forall_mem_cons.mpr ⟨⟨by decide, nf0⟩, (fun _ h => (by cases h))⟩, List.forall_mem_cons.mpr ⟨ho, (fun _ h => (by cases h))⟩⟩
def o_Mo_flood_2 : or_T := (34, 7, [(0, (2, 0, 0, [150])), (3, (0, 0, 1, [])), (5, (0, 0, 53, []))], [(20, [5, 0, 3], [2, 38, 26, 52, -2])], [], [(0, 0, 53, [])], [(20, [7, 0, 3], [1, 38, 26, 52, -2])], [(7, 5, -1000000000000, -1)], [])
theorem oo_Mo_flood_2 {kA : Nat → ClassId} : or_ok kA GG o_Mo_flood_2 := by
  intro A ta ws vs hD hth hl hk hds hf
  have hl : vs.length = 7 := hl
  have hk : ∀ q ∈ ([(0, (2, 0, 0, [150])), (3, (0, 0, 1, [])), (5, (0, 0, 53, []))] : List (Nat × tv_T)), tv_ok ta q.2 (n_v vs q.1) := hk
  obtain ⟨t0, hk⟩ := List.forall_mem_cons.mp hk
  have t0 : tv_ok ta (2, 0, 0, [150]) (n_v vs 0) := t0
  have r0 : ta (v_ad (n_v vs 0)) = some 150 := tv_rg t0
  obtain ⟨t3, hk⟩ := List.forall_mem_cons.mp hk
  have t3 : tv_ok ta (0, 0, 1, []) (n_v vs 3) := t3
  have k3 : 0 ≤ v_iv (n_v vs 3) ∧ v_iv (n_v vs 3) ≤ 1 := tv_rng t3
  obtain ⟨t5, hk⟩ := List.forall_mem_cons.mp hk
  have t5 : tv_ok ta (0, 0, 53, []) (n_v vs 5) := t5
  have k5 : 0 ≤ v_iv (n_v vs 5) ∧ v_iv (n_v vs 5) ≤ 53 := tv_rng t5
  have hf : fc_ok [(20, [5, 0, 3], [2, 38, 26, 52, -2])] ta ws vs := hf
  obtain ⟨f0, hf⟩ := fc_un (by decide) hf
  have f0 : 52 + (-2) * w_sum ws (w_ar ws (n_v vs 0) 38) 26 + v_iv (n_v vs 3) + 1 ≤ v_iv (n_v vs 5) := f0
  have ra : ta (w_ar ws (n_v vs 0) 38) = some 170 := tv_rg (th_fd hD hth r0 (g := GG_150) rfl (k := 38) (t := (2, 0, 0, [170])) rfl rfl)
  have bs := sum_bd (ws := ws) (a := w_ar ws (n_v vs 0) 38) (lo := 0) (hi := 1) (n := 26) (fun j hj => th_el hD hth ra (kd := 2) (n := 26) (m := 26) (rs := []) (L := []) rfl (by decide) (by omega))
  obtain ⟨x, ex, hx⟩ := iv_ex (ta := ta) (lo := 0) (hi := 53) (z := 52 + (-2) * w_sum ws (w_ar ws (n_v vs 0) 38) 26 + v_iv (n_v vs 3)) (by omega) (by omega) (by decide) (by decide)
  have ex2 : v_iv (Value.int x) = 52 + (-2) * w_sum ws (w_ar ws (n_v vs 0) 38) 26 + v_iv (n_v vs 3) := ex
  have e_0 : n_v (vs ++ [Value.int x]) 0 = n_v vs 0 := n_v_old (by rw [hl]; decide)
  have e_3 : n_v (vs ++ [Value.int x]) 3 = n_v vs 3 := n_v_old (by rw [hl]; decide)
  have e_7 : n_v (vs ++ [Value.int x]) 7 = Value.int x := n_v_new hl
  have nf0 : fc_1 (20, [7, 0, 3], [1, 38, 26, 52, -2]) ws (vs ++ [Value.int x]) := by
    refine ⟨fun n hn => ?_, ?_⟩
    · have hn : n ∈ [7, 0, 3] := hn
      rw [List.length_append, hl]
      simp only [List.mem_cons, List.not_mem_nil, or_false] at hn
      show n < 7 + 1; omega
    · show v_iv (n_v (vs ++ [Value.int x]) 7) = 52 + (-2) * w_sum ws (w_ar ws (n_v (vs ++ [Value.int x]) 0) 38) 26 + v_iv (n_v (vs ++ [Value.int x]) 3)
      rw [e_0]
      rw [e_3]
      rw [e_7]
      omega
  obtain ⟨x0, e0, _, _⟩ := tv_int t5 rfl
  have e1 : v_iv (n_v vs 5) = x0.toInt := by rw [e0]; rfl
  have ho : sy_ofs (vs ++ [Value.int x]) (7, 5, -1000000000000, -1) := by
    refine ⟨x, x0, by rw [List.getElem?_append_right (by rw [hl]; decide), hl]; rfl, ?_, ?_, ?_⟩
    · rw [List.getElem?_append_left (by rw [hl]; decide)]; exact n_v_some (by rw [hl]; decide) e0
    · show x0.toInt + (-1000000000000) ≤ x.toInt; omega
    · show x.toInt ≤ x0.toInt + (-1); omega
  exact ⟨fun q hq => (by cases hq), [Value.int x], ag_one hx, List.forall_mem_cons.mpr ⟨⟨by decide, nf0⟩, (fun _ h => (by cases h))⟩, List.forall_mem_cons.mpr ⟨ho, (fun _ h => (by cases h))⟩⟩
def o_Mo_flood_3 : or_T := (43, 24, [(0, (2, 0, 0, [150])), (3, (0, 0, 1, [])), (4, (0, 0, 79, [])), (5, (0, 0, 53, [])), (9, (2, 0, 0, [165])), (11, (2, 0, 0, [166])), (13, (2, 0, 0, [170])), (14, (0, 0, 24, [])), (15, (0, 0, 1, [])), (16, (0, 0, 24, [])), (17, (0, 0, 1, [])), (18, (0, 0, 24, [])), (19, (0, 1, 1, [])), (20, (0, 0, 24, [])), (21, (0, 1, 1, [])), (22, (0, 1, 1, []))], [(100, [13, 20, 21], []), (10, [20, 11, 4], []), (9, [11, 0], [34]), (9, [13, 0], [38]), (100, [13, 18, 19], []), (10, [18, 9, 4], []), (9, [9, 0], [33]), (9, [13, 0], [38]), (7, [15, 17], [1]), (10, [17, 13, 16], []), (10, [16, 11, 4], []), (9, [11, 0], [34]), (9, [13, 0], [38]), (10, [15, 13, 14], []), (10, [14, 9, 4], []), (9, [9, 0], [33]), (9, [13, 0], [38]), (9, [11, 0], [34]), (9, [9, 0], [33]), (20, [5, 0, 3], [2, 38, 26, 52, -2])], [], [], [(20, [5, 0, 22], [2, 38, 26, 52, -2])], [], [])
theorem oo_Mo_flood_3 {kA : Nat → ClassId} : or_ok kA GG o_Mo_flood_3 := by
  intro A ta ws vs hD hth hl hk hds hf
  have hl : vs.length = 24 := hl
  have hk : ∀ q ∈ ([(0, (2, 0, 0, [150])), (3, (0, 0, 1, [])), (4, (0, 0, 79, [])), (5, (0, 0, 53, [])), (9, (2, 0, 0, [165])), (11, (2, 0, 0, [166])), (13, (2, 0, 0, [170])), (14, (0, 0, 24, [])), (15, (0, 0, 1, [])), (16, (0, 0, 24, [])), (17, (0, 0, 1, [])), (18, (0, 0, 24, [])), (19, (0, 1, 1, [])), (20, (0, 0, 24, [])), (21, (0, 1, 1, [])), (22, (0, 1, 1, []))] : List (Nat × tv_T)), tv_ok ta q.2 (n_v vs q.1) := hk
  obtain ⟨t0, hk⟩ := List.forall_mem_cons.mp hk
  have t0 : tv_ok ta (2, 0, 0, [150]) (n_v vs 0) := t0
  have r0 : ta (v_ad (n_v vs 0)) = some 150 := tv_rg t0
  obtain ⟨t3, hk⟩ := List.forall_mem_cons.mp hk
  have t3 : tv_ok ta (0, 0, 1, []) (n_v vs 3) := t3
  have k3 : 0 ≤ v_iv (n_v vs 3) ∧ v_iv (n_v vs 3) ≤ 1 := tv_rng t3
  obtain ⟨t4, hk⟩ := List.forall_mem_cons.mp hk
  have t4 : tv_ok ta (0, 0, 79, []) (n_v vs 4) := t4
  have k4 : 0 ≤ v_iv (n_v vs 4) ∧ v_iv (n_v vs 4) ≤ 79 := tv_rng t4
  obtain ⟨t5, hk⟩ := List.forall_mem_cons.mp hk
  have t5 : tv_ok ta (0, 0, 53, []) (n_v vs 5) := t5
  have k5 : 0 ≤ v_iv (n_v vs 5) ∧ v_iv (n_v vs 5) ≤ 53 := tv_rng t5
  obtain ⟨t9, hk⟩ := List.forall_mem_cons.mp hk
  have t9 : tv_ok ta (2, 0, 0, [165]) (n_v vs 9) := t9
  have r9 : ta (v_ad (n_v vs 9)) = some 165 := tv_rg t9
  obtain ⟨t11, hk⟩ := List.forall_mem_cons.mp hk
  have t11 : tv_ok ta (2, 0, 0, [166]) (n_v vs 11) := t11
  have r11 : ta (v_ad (n_v vs 11)) = some 166 := tv_rg t11
  obtain ⟨t13, hk⟩ := List.forall_mem_cons.mp hk
  have t13 : tv_ok ta (2, 0, 0, [170]) (n_v vs 13) := t13
  have r13 : ta (v_ad (n_v vs 13)) = some 170 := tv_rg t13
  obtain ⟨t14, hk⟩ := List.forall_mem_cons.mp hk
  have t14 : tv_ok ta (0, 0, 24, []) (n_v vs 14) := t14
  have k14 : 0 ≤ v_iv (n_v vs 14) ∧ v_iv (n_v vs 14) ≤ 24 := tv_rng t14
  obtain ⟨t15, hk⟩ := List.forall_mem_cons.mp hk
  have t15 : tv_ok ta (0, 0, 1, []) (n_v vs 15) := t15
  have k15 : 0 ≤ v_iv (n_v vs 15) ∧ v_iv (n_v vs 15) ≤ 1 := tv_rng t15
  obtain ⟨t16, hk⟩ := List.forall_mem_cons.mp hk
  have t16 : tv_ok ta (0, 0, 24, []) (n_v vs 16) := t16
  have k16 : 0 ≤ v_iv (n_v vs 16) ∧ v_iv (n_v vs 16) ≤ 24 := tv_rng t16
  obtain ⟨t17, hk⟩ := List.forall_mem_cons.mp hk
  have t17 : tv_ok ta (0, 0, 1, []) (n_v vs 17) := t17
  have k17 : 0 ≤ v_iv (n_v vs 17) ∧ v_iv (n_v vs 17) ≤ 1 := tv_rng t17
  obtain ⟨t18, hk⟩ := List.forall_mem_cons.mp hk
  have t18 : tv_ok ta (0, 0, 24, []) (n_v vs 18) := t18
  have k18 : 0 ≤ v_iv (n_v vs 18) ∧ v_iv (n_v vs 18) ≤ 24 := tv_rng t18
  obtain ⟨t19, hk⟩ := List.forall_mem_cons.mp hk
  have t19 : tv_ok ta (0, 1, 1, []) (n_v vs 19) := t19
  have k19 : 1 ≤ v_iv (n_v vs 19) ∧ v_iv (n_v vs 19) ≤ 1 := tv_rng t19
  obtain ⟨t20, hk⟩ := List.forall_mem_cons.mp hk
  have t20 : tv_ok ta (0, 0, 24, []) (n_v vs 20) := t20
  have k20 : 0 ≤ v_iv (n_v vs 20) ∧ v_iv (n_v vs 20) ≤ 24 := tv_rng t20
  obtain ⟨t21, hk⟩ := List.forall_mem_cons.mp hk
  have t21 : tv_ok ta (0, 1, 1, []) (n_v vs 21) := t21
  have k21 : 1 ≤ v_iv (n_v vs 21) ∧ v_iv (n_v vs 21) ≤ 1 := tv_rng t21
  obtain ⟨t22, hk⟩ := List.forall_mem_cons.mp hk
  have t22 : tv_ok ta (0, 1, 1, []) (n_v vs 22) := t22
  have k22 : 1 ≤ v_iv (n_v vs 22) ∧ v_iv (n_v vs 22) ≤ 1 := tv_rng t22
  have hf : fc_ok [(100, [13, 20, 21], []), (10, [20, 11, 4], []), (9, [11, 0], [34]), (9, [13, 0], [38]), (100, [13, 18, 19], []), (10, [18, 9, 4], []), (9, [9, 0], [33]), (9, [13, 0], [38]), (7, [15, 17], [1]), (10, [17, 13, 16], []), (10, [16, 11, 4], []), (9, [11, 0], [34]), (9, [13, 0], [38]), (10, [15, 13, 14], []), (10, [14, 9, 4], []), (9, [9, 0], [33]), (9, [13, 0], [38]), (9, [11, 0], [34]), (9, [9, 0], [33]), (20, [5, 0, 3], [2, 38, 26, 52, -2])] ta ws vs := hf
  obtain ⟨ta1, w1, le1, ⟨_, s1⟩, hf⟩ := fc_us (by decide) hf
  have s1 : (∀ b j, w_el ws b j = if b = v_ad (n_v vs 13) ∧ j = (v_iv (n_v vs 20)).toNat then v_iv (n_v vs 21) else w_el w1 b j) ∧ ∀ b k, w_fd ws b k = w_fd w1 b k := s1
  obtain ⟨f1, hf⟩ := fc_un (by decide) hf
  have f1 : v_iv (n_v vs 20) = w_el w1 (v_ad (n_v vs 11)) (v_iv (n_v vs 4)).toNat := f1
  obtain ⟨f2, hf⟩ := fc_un (by decide) hf
  have f2 : n_v vs 11 = w_fd w1 (v_ad (n_v vs 0)) 34 := f2
  obtain ⟨f3, hf⟩ := fc_un (by decide) hf
  have f3 : n_v vs 13 = w_fd w1 (v_ad (n_v vs 0)) 38 := f3
  obtain ⟨ta2, w2, le2, ⟨_, s2⟩, hf⟩ := fc_us (by decide) hf
  have s2 : (∀ b j, w_el w1 b j = if b = v_ad (n_v vs 13) ∧ j = (v_iv (n_v vs 18)).toNat then v_iv (n_v vs 19) else w_el w2 b j) ∧ ∀ b k, w_fd w1 b k = w_fd w2 b k := s2
  obtain ⟨f5, hf⟩ := fc_un (by decide) hf
  have f5 : v_iv (n_v vs 18) = w_el w2 (v_ad (n_v vs 9)) (v_iv (n_v vs 4)).toNat := f5
  obtain ⟨f6, hf⟩ := fc_un (by decide) hf
  have f6 : n_v vs 9 = w_fd w2 (v_ad (n_v vs 0)) 33 := f6
  obtain ⟨f7, hf⟩ := fc_un (by decide) hf
  have f7 : n_v vs 13 = w_fd w2 (v_ad (n_v vs 0)) 38 := f7
  obtain ⟨f8, hf⟩ := fc_un (by decide) hf
  have f8 : v_iv (n_v vs 15) ≠ v_iv (n_v vs 17) := f8
  obtain ⟨f9, hf⟩ := fc_un (by decide) hf
  have f9 : v_iv (n_v vs 17) = w_el w2 (v_ad (n_v vs 13)) (v_iv (n_v vs 16)).toNat := f9
  obtain ⟨f10, hf⟩ := fc_un (by decide) hf
  have f10 : v_iv (n_v vs 16) = w_el w2 (v_ad (n_v vs 11)) (v_iv (n_v vs 4)).toNat := f10
  obtain ⟨f11, hf⟩ := fc_un (by decide) hf
  have f11 : n_v vs 11 = w_fd w2 (v_ad (n_v vs 0)) 34 := f11
  obtain ⟨f12, hf⟩ := fc_un (by decide) hf
  have f12 : n_v vs 13 = w_fd w2 (v_ad (n_v vs 0)) 38 := f12
  obtain ⟨f13, hf⟩ := fc_un (by decide) hf
  have f13 : v_iv (n_v vs 15) = w_el w2 (v_ad (n_v vs 13)) (v_iv (n_v vs 14)).toNat := f13
  obtain ⟨f14, hf⟩ := fc_un (by decide) hf
  have f14 : v_iv (n_v vs 14) = w_el w2 (v_ad (n_v vs 9)) (v_iv (n_v vs 4)).toNat := f14
  obtain ⟨f15, hf⟩ := fc_un (by decide) hf
  have f15 : n_v vs 9 = w_fd w2 (v_ad (n_v vs 0)) 33 := f15
  obtain ⟨f16, hf⟩ := fc_un (by decide) hf
  have f16 : n_v vs 13 = w_fd w2 (v_ad (n_v vs 0)) 38 := f16
  obtain ⟨f17, hf⟩ := fc_un (by decide) hf
  have f17 : n_v vs 11 = w_fd w2 (v_ad (n_v vs 0)) 34 := f17
  obtain ⟨f18, hf⟩ := fc_un (by decide) hf
  have f18 : n_v vs 9 = w_fd w2 (v_ad (n_v vs 0)) 33 := f18
  obtain ⟨f19, hf⟩ := fc_un (by decide) hf
  have f19 : 52 + (-2) * w_sum w2 (w_ar w2 (n_v vs 0) 38) 26 + v_iv (n_v vs 3) + 1 ≤ v_iv (n_v vs 5) := f19
  have a11 : v_ad (n_v vs 11) = w_ar ws (n_v vs 0) 34 := by rw [f2]; show _ = v_ad (w_fd ws _ _); rw [s1.2]
  have a13 : v_ad (n_v vs 13) = w_ar ws (n_v vs 0) 38 := by rw [f3]; show _ = v_ad (w_fd ws _ _); rw [s1.2]
  have a9 : v_ad (n_v vs 9) = w_ar ws (n_v vs 0) 33 := by rw [f6]; show _ = v_ad (w_fd ws _ _); rw [s1.2, s2.2]
  rw [a13] at s1
  rw [a11] at f1
  rw [a13] at s2
  rw [a9] at f5
  rw [a13] at f9
  rw [a11] at f10
  rw [a13] at f13
  rw [a9] at f14
  have c34 := r11; rw [a11] at c34
  have c38 := r13; rw [a13] at c38
  have c33 := r9; rw [a9] at c33
  have ne_33_34 : w_ar ws (n_v vs 0) 33 ≠ w_ar ws (n_v vs 0) 34 := fun e => by rw [e, c34] at c33; exact absurd (Option.some.inj c33) (by decide)
  have ne_33_38 : w_ar ws (n_v vs 0) 33 ≠ w_ar ws (n_v vs 0) 38 := fun e => by rw [e, c38] at c33; exact absurd (Option.some.inj c33) (by decide)
  have ne_34_33 : w_ar ws (n_v vs 0) 34 ≠ w_ar ws (n_v vs 0) 33 := fun e => by rw [e, c33] at c34; exact absurd (Option.some.inj c34) (by decide)
  have ne_34_38 : w_ar ws (n_v vs 0) 34 ≠ w_ar ws (n_v vs 0) 38 := fun e => by rw [e, c38] at c34; exact absurd (Option.some.inj c34) (by decide)
  have ne_38_33 : w_ar ws (n_v vs 0) 38 ≠ w_ar ws (n_v vs 0) 33 := fun e => by rw [e, c33] at c38; exact absurd (Option.some.inj c38) (by decide)
  have ne_38_34 : w_ar ws (n_v vs 0) 38 ≠ w_ar ws (n_v vs 0) 34 := fun e => by rw [e, c34] at c38; exact absurd (Option.some.inj c38) (by decide)
  have ex : v_iv (n_v vs 18) = v_iv (n_v vs 14) := by rw [f5, f14]
  have ey : v_iv (n_v vs 20) = v_iv (n_v vs 16) := by rw [f1, el_ne s2.1 (Or.inl ne_34_38), ← f10]
  have hne : (v_iv (n_v vs 14)).toNat ≠ (v_iv (n_v vs 16)).toNat := fun e => f8 (by rw [f13, f9, e])
  have g1 := sum_set s1.1 (n := 26) (by omega)
  have g2 := sum_set s2.1 (n := 26) (by omega)
  rw [el_ne s2.1 (Or.inr (by rw [ex, ey]; exact fun e => hne e.symm)), ey, ← f9] at g1
  rw [ex, ← f13] at g2
  have t2 : w_ar w2 (n_v vs 0) 38 = w_ar ws (n_v vs 0) 38 := by show v_ad (w_fd w2 _ _) = v_ad (w_fd ws _ _); rw [s1.2, s2.2]
  rw [t2] at f19
  have key : 52 + (-2) * w_sum ws (w_ar ws (n_v vs 0) 38) 26 + v_iv (n_v vs 22) + 1 ≤ v_iv (n_v vs 5) := by omega
  have nf0 : fc_1 (20, [5, 0, 22], [2, 38, 26, 52, -2]) ws (vs) := by
    refine ⟨fun n hn => ?_, ?_⟩
    · have hn : n ∈ [5, 0, 22] := hn
      rw [hl]
      simp only [List.mem_cons, List.not_mem_nil, or_false] at hn
      show n < 24; omega
    · show 52 + (-2) * w_sum ws (w_ar ws (n_v vs 0) 38) 26 + v_iv (n_v vs 22) + 1 ≤ v_iv (n_v vs 5)
      exact key
  refine ⟨(fun _ h => (by cases h)), [], trivial, ?_, (fun _ h => (by cases h))⟩
  rw [List.append_nil]
  exact List.forall_mem_cons.mpr ⟨⟨by decide, nf0⟩, (fun _ h => (by cases h))⟩
def n_Mo_flood_an : List an_T := [(2, [(0, (2, 0, 0, [150])), (1, (0, 0, 24, [])), (2, (0, -1, 24, [])), (3, (0, 0, 25, []))], [], (0, 0), [(0, 0, 99998), (1, 3, 25), (0, 0, 100000), (0, 0, 0), (0, 0, 0)], [], [], [], 0, [], []), (34, [(0, (2, 0, 0, [150])), (1, (0, 0, 24, [])), (2, (0, -1, 24, [])), (3, (0, 0, 1, []))], [], (0, 0), [(0, 0, 99966), (2, 4, 0), (0, 0, 100000), (0, 0, 0), (0, 0, 0)], [], [], [], 0, [(0, 0, 53, [])], [(20, [4, 0, 3], [1, 38, 26, 52, -2])]), (43, [(0, (2, 0, 0, [150])), (1, (0, 0, 24, [])), (2, (0, -1, 24, [])), (3, (0, 0, 1, [])), (4, (0, 0, 80, []))], [], (0, 0), [(0, 0, 99966), (2, 5, 0), (0, 0, 99957), (1, 4, 80), (0, 0, 100000)], [], [], [], 0, [(0, 0, 53, [])], [(20, [5, 0, 3], [2, 38, 26, 52, -2])])]
def t_Mo_flood_ct : ct_L := []
set_option maxRecDepth 100000 in
theorem c_Mo_flood {l : Launch} {D : va_G} {kA : Nat → ClassId} : ct_ok l D kA GG y_Mo_flood z_Mo_flood e_Mo_flood := chk_all_ok (FT := [(57, 13, 33), (60, 13, 34), (63, 13, 35), (72, 13, 38), (594, 13, 31), (597, 13, 32)]) (PT := []) (CT := t_Mo_flood_ct) (KT := []) (NT := []) (AN := n_Mo_flood_an) (OT := [o_Mo_flood_0, o_Mo_flood_1, o_Mo_flood_2, o_Mo_flood_3]) 5 384 (List.forall_mem_cons.mpr ⟨oo_Mo_flood_0, List.forall_mem_cons.mpr ⟨oo_Mo_flood_1, List.forall_mem_cons.mpr ⟨oo_Mo_flood_2, List.forall_mem_cons.mpr ⟨oo_Mo_flood_3, List.forall_mem_nil _⟩⟩⟩⟩) (by decide +kernel) ⟨List.forall_mem_cons.mpr ⟨gf_Mo_57, List.forall_mem_cons.mpr ⟨gf_Mo_60, List.forall_mem_cons.mpr ⟨gf_Mo_63, List.forall_mem_cons.mpr ⟨gf_Mo_72, List.forall_mem_cons.mpr ⟨gf_Mo_594, List.forall_mem_cons.mpr ⟨gf_Mo_597, List.forall_mem_nil _⟩⟩⟩⟩⟩⟩, List.forall_mem_nil _, List.forall_mem_nil _, List.forall_mem_nil _, List.forall_mem_nil _⟩ (by decide +kernel)
def n_Mo_fromOf_an : List an_T := []
def t_Mo_fromOf_ct : ct_L := []
set_option maxRecDepth 100000 in
theorem c_Mo_fromOf {l : Launch} {D : va_G} {kA : Nat → ClassId} : ct_ok l D kA GG y_Mo_fromOf z_Mo_fromOf e_Mo_fromOf := chk_all_ok (FT := [(57, 13, 33), (60, 13, 34)]) (PT := []) (CT := t_Mo_fromOf_ct) (KT := []) (NT := []) (AN := n_Mo_fromOf_an) (OT := []) 0 200 (List.forall_mem_nil _) (by decide +kernel) ⟨List.forall_mem_cons.mpr ⟨gf_Mo_57, List.forall_mem_cons.mpr ⟨gf_Mo_60, List.forall_mem_nil _⟩⟩, List.forall_mem_nil _, List.forall_mem_nil _, List.forall_mem_nil _, List.forall_mem_nil _⟩ (by decide +kernel)
def n_Mo_groupOf_an : List an_T := []
def t_Mo_groupOf_ct : ct_L := []
set_option maxRecDepth 100000 in
theorem c_Mo_groupOf {l : Launch} {D : va_G} {kA : Nat → ClassId} : ct_ok l D kA GG y_Mo_groupOf z_Mo_groupOf e_Mo_groupOf := chk_all_ok (FT := [(16, 13, 2), (391, 13, 5)]) (PT := []) (CT := t_Mo_groupOf_ct) (KT := []) (NT := []) (AN := n_Mo_groupOf_an) (OT := []) 0 200 (List.forall_mem_nil _) (by decide +kernel) ⟨List.forall_mem_cons.mpr ⟨gf_Mo_16, List.forall_mem_cons.mpr ⟨gf_Mo_391, List.forall_mem_nil _⟩⟩, List.forall_mem_nil _, List.forall_mem_nil _, List.forall_mem_nil _, List.forall_mem_nil _⟩ (by decide +kernel)
def n_Mo_groups_an : List an_T := []
def t_Mo_groups_ct : ct_L := []
set_option maxRecDepth 100000 in
theorem c_Mo_groups {l : Launch} {D : va_G} {kA : Nat → ClassId} : ct_ok l D kA GG y_Mo_groups z_Mo_groups e_Mo_groups := chk_all_ok (FT := [(16, 13, 2), (391, 13, 5)]) (PT := []) (CT := t_Mo_groups_ct) (KT := []) (NT := []) (AN := n_Mo_groups_an) (OT := []) 0 200 (List.forall_mem_nil _) (by decide +kernel) ⟨List.forall_mem_cons.mpr ⟨gf_Mo_16, List.forall_mem_cons.mpr ⟨gf_Mo_391, List.forall_mem_nil _⟩⟩, List.forall_mem_nil _, List.forall_mem_nil _, List.forall_mem_nil _, List.forall_mem_nil _⟩ (by decide +kernel)
def n_Mo_head_an : List an_T := []
def t_Mo_head_ct : ct_L := []
set_option maxRecDepth 100000 in
theorem c_Mo_head {l : Launch} {D : va_G} {kA : Nat → ClassId} : ct_ok l D kA GG y_Mo_head z_Mo_head e_Mo_head := chk_all_ok (FT := [(16, 13, 2), (391, 13, 5)]) (PT := []) (CT := t_Mo_head_ct) (KT := []) (NT := []) (AN := n_Mo_head_an) (OT := []) 0 200 (List.forall_mem_nil _) (by decide +kernel) ⟨List.forall_mem_cons.mpr ⟨gf_Mo_16, List.forall_mem_cons.mpr ⟨gf_Mo_391, List.forall_mem_nil _⟩⟩, List.forall_mem_nil _, List.forall_mem_nil _, List.forall_mem_nil _, List.forall_mem_nil _⟩ (by decide +kernel)
def n_Mo_in_an : List an_T := []
def t_Mo_in_ct : ct_L := []
set_option maxRecDepth 100000 in
theorem c_Mo_in {l : Launch} {D : va_G} {kA : Nat → ClassId} : ct_ok l D kA GG y_Mo_in z_Mo_in e_Mo_in := chk_all_ok (FT := []) (PT := []) (CT := t_Mo_in_ct) (KT := []) (NT := []) (AN := n_Mo_in_an) (OT := []) 0 200 (List.forall_mem_nil _) (by decide +kernel) ⟨List.forall_mem_nil _, List.forall_mem_nil _, List.forall_mem_nil _, List.forall_mem_nil _, List.forall_mem_nil _⟩ (by decide +kernel)
def n_Mo_isBridge_an : List an_T := [(4, [(0, (2, 0, 0, [150])), (1, (0, 0, 47, [])), (2, (0, -2147483648, 2147483647, [])), (3, (0, 0, 80, []))], [], (0, 0), [(0, 0, 99996), (1, 3, 80), (0, 0, 100000)], [], [], [], 0, [], [])]
def t_Mo_isBridge_ct : ct_L := []
set_option maxRecDepth 100000 in
theorem c_Mo_isBridge {l : Launch} {D : va_G} {kA : Nat → ClassId} : ct_ok l D kA GG y_Mo_isBridge z_Mo_isBridge e_Mo_isBridge := chk_all_ok (FT := [(32, 13, 17), (597, 13, 32)]) (PT := []) (CT := t_Mo_isBridge_ct) (KT := []) (NT := []) (AN := n_Mo_isBridge_an) (OT := []) 3 200 (List.forall_mem_nil _) (by decide +kernel) ⟨List.forall_mem_cons.mpr ⟨gf_Mo_32, List.forall_mem_cons.mpr ⟨gf_Mo_597, List.forall_mem_nil _⟩⟩, List.forall_mem_nil _, List.forall_mem_nil _, List.forall_mem_nil _, List.forall_mem_nil _⟩ (by decide +kernel)
def n_Mo_isEnd_an : List an_T := []
def t_Mo_isEnd_ct : ct_L := []
set_option maxRecDepth 100000 in
theorem c_Mo_isEnd {l : Launch} {D : va_G} {kA : Nat → ClassId} : ct_ok l D kA GG y_Mo_isEnd z_Mo_isEnd e_Mo_isEnd := chk_all_ok (FT := [(96, 13, 50)]) (PT := []) (CT := t_Mo_isEnd_ct) (KT := []) (NT := []) (AN := n_Mo_isEnd_an) (OT := []) 0 200 (List.forall_mem_nil _) (by decide +kernel) ⟨List.forall_mem_cons.mpr ⟨gf_Mo_96, List.forall_mem_nil _⟩, List.forall_mem_nil _, List.forall_mem_nil _, List.forall_mem_nil _, List.forall_mem_nil _⟩ (by decide +kernel)
def n_Mo_isMember_an : List an_T := [(2, [(0, (2, 0, 0, [150])), (1, (0, 0, 23, [])), (2, (0, 0, 26, []))], [], (0, 0), [(0, 0, 99998), (1, 2, 26), (0, 0, 100000)], [], [], [], 0, [], [])]
def t_Mo_isMember_ct : ct_L := []
set_option maxRecDepth 100000 in
theorem c_Mo_isMember {l : Launch} {D : va_G} {kA : Nat → ClassId} : ct_ok l D kA GG y_Mo_isMember z_Mo_isMember e_Mo_isMember := chk_all_ok (FT := [(219, 13, 98), (795, 13, 99)]) (PT := []) (CT := t_Mo_isMember_ct) (KT := []) (NT := []) (AN := n_Mo_isMember_an) (OT := []) 3 200 (List.forall_mem_nil _) (by decide +kernel) ⟨List.forall_mem_cons.mpr ⟨gf_Mo_219, List.forall_mem_cons.mpr ⟨gf_Mo_795, List.forall_mem_nil _⟩⟩, List.forall_mem_nil _, List.forall_mem_nil _, List.forall_mem_nil _, List.forall_mem_nil _⟩ (by decide +kernel)
def n_Mo_isSmall_an : List an_T := [(2, [(0, (2, 0, 0, [150])), (1, (0, 0, 76, []))], [], (0, 0), [(0, 0, 99998), (1, 1, 76), (0, 0, 100000)], [], [], [], 0, [], [])]
def t_Mo_isSmall_ct : ct_L := []
set_option maxRecDepth 100000 in
theorem c_Mo_isSmall {l : Launch} {D : va_G} {kA : Nat → ClassId} : ct_ok l D kA GG y_Mo_isSmall z_Mo_isSmall e_Mo_isSmall := chk_all_ok (FT := [(231, 13, 105), (852, 13, 101)]) (PT := []) (CT := t_Mo_isSmall_ct) (KT := []) (NT := []) (AN := n_Mo_isSmall_an) (OT := []) 3 200 (List.forall_mem_nil _) (by decide +kernel) ⟨List.forall_mem_cons.mpr ⟨gf_Mo_231, List.forall_mem_cons.mpr ⟨gf_Mo_852, List.forall_mem_nil _⟩⟩, List.forall_mem_nil _, List.forall_mem_nil _, List.forall_mem_nil _, List.forall_mem_nil _⟩ (by decide +kernel)
def n_Mo_longOf_an : List an_T := []
def t_Mo_longOf_ct : ct_L := []
set_option maxRecDepth 100000 in
theorem c_Mo_longOf {l : Launch} {D : va_G} {kA : Nat → ClassId} : ct_ok l D kA GG y_Mo_longOf z_Mo_longOf e_Mo_longOf := chk_all_ok (FT := [(16, 13, 2), (391, 13, 5)]) (PT := []) (CT := t_Mo_longOf_ct) (KT := []) (NT := []) (AN := n_Mo_longOf_an) (OT := []) 0 200 (List.forall_mem_nil _) (by decide +kernel) ⟨List.forall_mem_cons.mpr ⟨gf_Mo_16, List.forall_mem_cons.mpr ⟨gf_Mo_391, List.forall_mem_nil _⟩⟩, List.forall_mem_nil _, List.forall_mem_nil _, List.forall_mem_nil _, List.forall_mem_nil _⟩ (by decide +kernel)
def n_Mo_low_an : List an_T := []
def t_Mo_low_ct : ct_L := []
set_option maxRecDepth 100000 in
theorem c_Mo_low {l : Launch} {D : va_G} {kA : Nat → ClassId} : ct_ok l D kA GG y_Mo_low z_Mo_low e_Mo_low := chk_all_ok (FT := [(57, 13, 33), (60, 13, 34), (284, 13, 124)]) (PT := []) (CT := t_Mo_low_ct) (KT := []) (NT := []) (AN := n_Mo_low_an) (OT := []) 0 200 (List.forall_mem_nil _) (by decide +kernel) ⟨List.forall_mem_cons.mpr ⟨gf_Mo_57, List.forall_mem_cons.mpr ⟨gf_Mo_60, List.forall_mem_cons.mpr ⟨gf_Mo_284, List.forall_mem_nil _⟩⟩⟩, List.forall_mem_nil _, List.forall_mem_nil _, List.forall_mem_nil _, List.forall_mem_nil _⟩ (by decide +kernel)
def o_Mo_max_0 : or_T := (10, 2, [(0, (0, -2147483648, 2147483647, [])), (1, (0, -2147483648, 2147483647, []))], [(7, [0, 1], [5])], [], [], [(7, [1, 1], [5])], [], [])
theorem oo_Mo_max_0 {kA : Nat → ClassId} : or_ok kA GG o_Mo_max_0 := by
  intro A ta ws vs hD hth hl hk hds hf
  have hl : vs.length = 2 := hl
  have hk : ∀ q ∈ ([(0, (0, -2147483648, 2147483647, [])), (1, (0, -2147483648, 2147483647, []))] : List (Nat × tv_T)), tv_ok ta q.2 (n_v vs q.1) := hk
  obtain ⟨t0, hk⟩ := List.forall_mem_cons.mp hk
  have t0 : tv_ok ta (0, -2147483648, 2147483647, []) (n_v vs 0) := t0
  have k0 : (-2147483648) ≤ v_iv (n_v vs 0) ∧ v_iv (n_v vs 0) ≤ 2147483647 := tv_rng t0
  obtain ⟨t1, hk⟩ := List.forall_mem_cons.mp hk
  have t1 : tv_ok ta (0, -2147483648, 2147483647, []) (n_v vs 1) := t1
  have k1 : (-2147483648) ≤ v_iv (n_v vs 1) ∧ v_iv (n_v vs 1) ≤ 2147483647 := tv_rng t1
  have hf : fc_ok [(7, [0, 1], [5])] ta ws vs := hf
  obtain ⟨f0, hf⟩ := fc_un (by decide) hf
  have f0 : v_iv (n_v vs 0) ≤ v_iv (n_v vs 1) := f0
  have nf0 : fc_1 (7, [1, 1], [5]) ws (vs) := by
    refine ⟨fun n hn => ?_, ?_⟩
    · have hn : n ∈ [1, 1] := hn
      rw [hl]
      simp only [List.mem_cons, List.not_mem_nil, or_false] at hn
      show n < 2; omega
    · show v_iv (n_v vs 1) ≤ v_iv (n_v vs 1)
      omega
  refine ⟨(fun _ h => (by cases h)), [], trivial, ?_, (fun _ h => (by cases h))⟩
  rw [List.append_nil]
  exact List.forall_mem_cons.mpr ⟨⟨by decide, nf0⟩, (fun _ h => (by cases h))⟩
def o_Mo_max_1 : or_T := (10, 2, [(0, (0, -2147483647, 2147483647, [])), (1, (0, -2147483648, 2147483646, []))], [(7, [0, 1], [4])], [], [], [(7, [0, 0], [5]), (7, [1, 0], [5])], [], [])
theorem oo_Mo_max_1 {kA : Nat → ClassId} : or_ok kA GG o_Mo_max_1 := by
  intro A ta ws vs hD hth hl hk hds hf
  have hl : vs.length = 2 := hl
  have hk : ∀ q ∈ ([(0, (0, -2147483647, 2147483647, [])), (1, (0, -2147483648, 2147483646, []))] : List (Nat × tv_T)), tv_ok ta q.2 (n_v vs q.1) := hk
  obtain ⟨t0, hk⟩ := List.forall_mem_cons.mp hk
  have t0 : tv_ok ta (0, -2147483647, 2147483647, []) (n_v vs 0) := t0
  have k0 : (-2147483647) ≤ v_iv (n_v vs 0) ∧ v_iv (n_v vs 0) ≤ 2147483647 := tv_rng t0
  obtain ⟨t1, hk⟩ := List.forall_mem_cons.mp hk
  have t1 : tv_ok ta (0, -2147483648, 2147483646, []) (n_v vs 1) := t1
  have k1 : (-2147483648) ≤ v_iv (n_v vs 1) ∧ v_iv (n_v vs 1) ≤ 2147483646 := tv_rng t1
  have hf : fc_ok [(7, [0, 1], [4])] ta ws vs := hf
  obtain ⟨f0, hf⟩ := fc_un (by decide) hf
  have f0 : v_iv (n_v vs 1) < v_iv (n_v vs 0) := f0
  have nf0 : fc_1 (7, [0, 0], [5]) ws (vs) := by
    refine ⟨fun n hn => ?_, ?_⟩
    · have hn : n ∈ [0, 0] := hn
      rw [hl]
      simp only [List.mem_cons, List.not_mem_nil, or_false] at hn
      show n < 2; omega
    · show v_iv (n_v vs 0) ≤ v_iv (n_v vs 0)
      omega
  have nf1 : fc_1 (7, [1, 0], [5]) ws (vs) := by
    refine ⟨fun n hn => ?_, ?_⟩
    · have hn : n ∈ [1, 0] := hn
      rw [hl]
      simp only [List.mem_cons, List.not_mem_nil, or_false] at hn
      show n < 2; omega
    · show v_iv (n_v vs 1) ≤ v_iv (n_v vs 0)
      omega
  refine ⟨(fun _ h => (by cases h)), [], trivial, ?_, (fun _ h => (by cases h))⟩
  rw [List.append_nil]
  exact List.forall_mem_cons.mpr ⟨⟨by decide, nf0⟩, List.forall_mem_cons.mpr ⟨⟨by decide, nf1⟩, (fun _ h => (by cases h))⟩⟩
def n_Mo_max_an : List an_T := []
def t_Mo_max_ct : ct_L := []
set_option maxRecDepth 100000 in
theorem c_Mo_max {l : Launch} {D : va_G} {kA : Nat → ClassId} : ct_ok l D kA GG y_Mo_max z_Mo_max e_Mo_max := chk_all_ok (FT := []) (PT := []) (CT := t_Mo_max_ct) (KT := []) (NT := []) (AN := n_Mo_max_an) (OT := [o_Mo_max_0, o_Mo_max_1]) 0 200 (List.forall_mem_cons.mpr ⟨oo_Mo_max_0, List.forall_mem_cons.mpr ⟨oo_Mo_max_1, List.forall_mem_nil _⟩⟩) (by decide +kernel) ⟨List.forall_mem_nil _, List.forall_mem_nil _, List.forall_mem_nil _, List.forall_mem_nil _, List.forall_mem_nil _⟩ (by decide +kernel)
def n_Mo_mayGo_an : List an_T := []
def t_Mo_mayGo_ct : ct_L := []
set_option maxRecDepth 100000 in
theorem c_Mo_mayGo {l : Launch} {D : va_G} {kA : Nat → ClassId} : ct_ok l D kA GG y_Mo_mayGo z_Mo_mayGo e_Mo_mayGo := chk_all_ok (FT := [(84, 13, 43), (87, 13, 44), (649, 13, 49)]) (PT := []) (CT := t_Mo_mayGo_ct) (KT := []) (NT := []) (AN := n_Mo_mayGo_an) (OT := []) 0 200 (List.forall_mem_nil _) (by decide +kernel) ⟨List.forall_mem_cons.mpr ⟨gf_Mo_84, List.forall_mem_cons.mpr ⟨gf_Mo_87, List.forall_mem_cons.mpr ⟨gf_Mo_649, List.forall_mem_nil _⟩⟩⟩, List.forall_mem_nil _, List.forall_mem_nil _, List.forall_mem_nil _, List.forall_mem_nil _⟩ (by decide +kernel)
def o_Mo_min_0 : or_T := (10, 2, [(0, (0, -2147483648, 2147483647, [])), (1, (0, -2147483648, 2147483647, []))], [(7, [0, 1], [3])], [], [], [(7, [1, 0], [5]), (7, [1, 1], [5])], [], [])
theorem oo_Mo_min_0 {kA : Nat → ClassId} : or_ok kA GG o_Mo_min_0 := by
  intro A ta ws vs hD hth hl hk hds hf
  have hl : vs.length = 2 := hl
  have hk : ∀ q ∈ ([(0, (0, -2147483648, 2147483647, [])), (1, (0, -2147483648, 2147483647, []))] : List (Nat × tv_T)), tv_ok ta q.2 (n_v vs q.1) := hk
  obtain ⟨t0, hk⟩ := List.forall_mem_cons.mp hk
  have t0 : tv_ok ta (0, -2147483648, 2147483647, []) (n_v vs 0) := t0
  have k0 : (-2147483648) ≤ v_iv (n_v vs 0) ∧ v_iv (n_v vs 0) ≤ 2147483647 := tv_rng t0
  obtain ⟨t1, hk⟩ := List.forall_mem_cons.mp hk
  have t1 : tv_ok ta (0, -2147483648, 2147483647, []) (n_v vs 1) := t1
  have k1 : (-2147483648) ≤ v_iv (n_v vs 1) ∧ v_iv (n_v vs 1) ≤ 2147483647 := tv_rng t1
  have hf : fc_ok [(7, [0, 1], [3])] ta ws vs := hf
  obtain ⟨f0, hf⟩ := fc_un (by decide) hf
  have f0 : v_iv (n_v vs 1) ≤ v_iv (n_v vs 0) := f0
  have nf0 : fc_1 (7, [1, 0], [5]) ws (vs) := by
    refine ⟨fun n hn => ?_, ?_⟩
    · have hn : n ∈ [1, 0] := hn
      rw [hl]
      simp only [List.mem_cons, List.not_mem_nil, or_false] at hn
      show n < 2; omega
    · show v_iv (n_v vs 1) ≤ v_iv (n_v vs 0)
      omega
  have nf1 : fc_1 (7, [1, 1], [5]) ws (vs) := by
    refine ⟨fun n hn => ?_, ?_⟩
    · have hn : n ∈ [1, 1] := hn
      rw [hl]
      simp only [List.mem_cons, List.not_mem_nil, or_false] at hn
      show n < 2; omega
    · show v_iv (n_v vs 1) ≤ v_iv (n_v vs 1)
      omega
  refine ⟨(fun _ h => (by cases h)), [], trivial, ?_, (fun _ h => (by cases h))⟩
  rw [List.append_nil]
  exact List.forall_mem_cons.mpr ⟨⟨by decide, nf0⟩, List.forall_mem_cons.mpr ⟨⟨by decide, nf1⟩, (fun _ h => (by cases h))⟩⟩
def o_Mo_min_1 : or_T := (10, 2, [(0, (0, -2147483648, 2147483646, [])), (1, (0, -2147483647, 2147483647, []))], [(7, [0, 1], [2])], [], [], [(7, [0, 0], [5]), (7, [0, 1], [5])], [], [])
theorem oo_Mo_min_1 {kA : Nat → ClassId} : or_ok kA GG o_Mo_min_1 := by
  intro A ta ws vs hD hth hl hk hds hf
  have hl : vs.length = 2 := hl
  have hk : ∀ q ∈ ([(0, (0, -2147483648, 2147483646, [])), (1, (0, -2147483647, 2147483647, []))] : List (Nat × tv_T)), tv_ok ta q.2 (n_v vs q.1) := hk
  obtain ⟨t0, hk⟩ := List.forall_mem_cons.mp hk
  have t0 : tv_ok ta (0, -2147483648, 2147483646, []) (n_v vs 0) := t0
  have k0 : (-2147483648) ≤ v_iv (n_v vs 0) ∧ v_iv (n_v vs 0) ≤ 2147483646 := tv_rng t0
  obtain ⟨t1, hk⟩ := List.forall_mem_cons.mp hk
  have t1 : tv_ok ta (0, -2147483647, 2147483647, []) (n_v vs 1) := t1
  have k1 : (-2147483647) ≤ v_iv (n_v vs 1) ∧ v_iv (n_v vs 1) ≤ 2147483647 := tv_rng t1
  have hf : fc_ok [(7, [0, 1], [2])] ta ws vs := hf
  obtain ⟨f0, hf⟩ := fc_un (by decide) hf
  have f0 : v_iv (n_v vs 0) < v_iv (n_v vs 1) := f0
  have nf0 : fc_1 (7, [0, 0], [5]) ws (vs) := by
    refine ⟨fun n hn => ?_, ?_⟩
    · have hn : n ∈ [0, 0] := hn
      rw [hl]
      simp only [List.mem_cons, List.not_mem_nil, or_false] at hn
      show n < 2; omega
    · show v_iv (n_v vs 0) ≤ v_iv (n_v vs 0)
      omega
  have nf1 : fc_1 (7, [0, 1], [5]) ws (vs) := by
    refine ⟨fun n hn => ?_, ?_⟩
    · have hn : n ∈ [0, 1] := hn
      rw [hl]
      simp only [List.mem_cons, List.not_mem_nil, or_false] at hn
      show n < 2; omega
    · show v_iv (n_v vs 0) ≤ v_iv (n_v vs 1)
      omega
  refine ⟨(fun _ h => (by cases h)), [], trivial, ?_, (fun _ h => (by cases h))⟩
  rw [List.append_nil]
  exact List.forall_mem_cons.mpr ⟨⟨by decide, nf0⟩, List.forall_mem_cons.mpr ⟨⟨by decide, nf1⟩, (fun _ h => (by cases h))⟩⟩
def n_Mo_min_an : List an_T := []
def t_Mo_min_ct : ct_L := []
set_option maxRecDepth 100000 in
theorem c_Mo_min {l : Launch} {D : va_G} {kA : Nat → ClassId} : ct_ok l D kA GG y_Mo_min z_Mo_min e_Mo_min := chk_all_ok (FT := []) (PT := []) (CT := t_Mo_min_ct) (KT := []) (NT := []) (AN := n_Mo_min_an) (OT := [o_Mo_min_0, o_Mo_min_1]) 0 200 (List.forall_mem_cons.mpr ⟨oo_Mo_min_0, List.forall_mem_cons.mpr ⟨oo_Mo_min_1, List.forall_mem_nil _⟩⟩) (by decide +kernel) ⟨List.forall_mem_nil _, List.forall_mem_nil _, List.forall_mem_nil _, List.forall_mem_nil _, List.forall_mem_nil _⟩ (by decide +kernel)
def n_Mo_missing_an : List an_T := [(2, [(0, (2, 0, 0, [150])), (1, (0, 0, 80, []))], [], (0, 0), [(0, 0, 99998), (1, 1, 80), (0, 0, 100000)], [], [], [], 0, [], [])]
def t_Mo_missing_ct : ct_L := []
set_option maxRecDepth 100000 in
theorem c_Mo_missing {l : Launch} {D : va_G} {kA : Nat → ClassId} : ct_ok l D kA GG y_Mo_missing z_Mo_missing e_Mo_missing := chk_all_ok (FT := [(84, 13, 43), (597, 13, 32)]) (PT := []) (CT := t_Mo_missing_ct) (KT := []) (NT := []) (AN := n_Mo_missing_an) (OT := []) 3 200 (List.forall_mem_nil _) (by decide +kernel) ⟨List.forall_mem_cons.mpr ⟨gf_Mo_84, List.forall_mem_cons.mpr ⟨gf_Mo_597, List.forall_mem_nil _⟩⟩, List.forall_mem_nil _, List.forall_mem_nil _, List.forall_mem_nil _, List.forall_mem_nil _⟩ (by decide +kernel)
def n_Mo_move_an : List an_T := [(2, [(0, (2, 0, 0, [150])), (1, (0, 0, 33554431, [])), (2, (0, 1, 2, [])), (3, (0, 0, 25, []))], [], (0, 0), [(0, 0, 99998), (1, 3, 25), (0, 0, 100000)], [], [], [], 0, [], [])]
def t_Mo_move_ct : ct_L := []
set_option maxRecDepth 100000 in
theorem c_Mo_move {l : Launch} {D : va_G} {kA : Nat → ClassId} : ct_ok l D kA GG y_Mo_move z_Mo_move e_Mo_move := chk_all_ok (FT := [(159, 13, 74), (594, 13, 31)]) (PT := []) (CT := t_Mo_move_ct) (KT := []) (NT := []) (AN := n_Mo_move_an) (OT := []) 3 200 (List.forall_mem_nil _) (by decide +kernel) ⟨List.forall_mem_cons.mpr ⟨gf_Mo_159, List.forall_mem_cons.mpr ⟨gf_Mo_594, List.forall_mem_nil _⟩⟩, List.forall_mem_nil _, List.forall_mem_nil _, List.forall_mem_nil _, List.forall_mem_nil _⟩ (by decide +kernel)
def n_Mo_nodes_an : List an_T := []
def t_Mo_nodes_ct : ct_L := []
set_option maxRecDepth 100000 in
theorem c_Mo_nodes {l : Launch} {D : va_G} {kA : Nat → ClassId} : ct_ok l D kA GG y_Mo_nodes z_Mo_nodes e_Mo_nodes := chk_all_ok (FT := [(16, 13, 2), (391, 13, 5)]) (PT := []) (CT := t_Mo_nodes_ct) (KT := []) (NT := []) (AN := n_Mo_nodes_an) (OT := []) 0 200 (List.forall_mem_nil _) (by decide +kernel) ⟨List.forall_mem_cons.mpr ⟨gf_Mo_16, List.forall_mem_cons.mpr ⟨gf_Mo_391, List.forall_mem_nil _⟩⟩, List.forall_mem_nil _, List.forall_mem_nil _, List.forall_mem_nil _, List.forall_mem_nil _⟩ (by decide +kernel)
def n_Mo_one_an : List an_T := []
def t_Mo_one_ct : ct_L := []
set_option maxRecDepth 100000 in
theorem c_Mo_one {l : Launch} {D : va_G} {kA : Nat → ClassId} : ct_ok l D kA GG y_Mo_one z_Mo_one e_Mo_one := chk_all_ok (FT := [(16, 13, 2), (391, 13, 5)]) (PT := []) (CT := t_Mo_one_ct) (KT := []) (NT := []) (AN := n_Mo_one_an) (OT := []) 0 200 (List.forall_mem_nil _) (by decide +kernel) ⟨List.forall_mem_cons.mpr ⟨gf_Mo_16, List.forall_mem_cons.mpr ⟨gf_Mo_391, List.forall_mem_nil _⟩⟩, List.forall_mem_nil _, List.forall_mem_nil _, List.forall_mem_nil _, List.forall_mem_nil _⟩ (by decide +kernel)
def n_Mo_placeIn_an : List an_T := [(2, [(0, (2, 0, 0, [150])), (1, (0, 0, 23, [])), (2, (0, 0, 26, []))], [], (0, 0), [(0, 0, 99998), (1, 2, 26), (0, 0, 100000)], [], [], [], 0, [], [])]
def t_Mo_placeIn_ct : ct_L := []
set_option maxRecDepth 100000 in
theorem c_Mo_placeIn {l : Launch} {D : va_G} {kA : Nat → ClassId} : ct_ok l D kA GG y_Mo_placeIn z_Mo_placeIn e_Mo_placeIn := chk_all_ok (FT := [(216, 13, 97), (795, 13, 99)]) (PT := []) (CT := t_Mo_placeIn_ct) (KT := []) (NT := []) (AN := n_Mo_placeIn_an) (OT := []) 3 200 (List.forall_mem_nil _) (by decide +kernel) ⟨List.forall_mem_cons.mpr ⟨gf_Mo_216, List.forall_mem_cons.mpr ⟨gf_Mo_795, List.forall_mem_nil _⟩⟩, List.forall_mem_nil _, List.forall_mem_nil _, List.forall_mem_nil _, List.forall_mem_nil _⟩ (by decide +kernel)
def n_Mo_pointsOf_an : List an_T := []
def t_Mo_pointsOf_ct : ct_L := []
set_option maxRecDepth 100000 in
theorem c_Mo_pointsOf {l : Launch} {D : va_G} {kA : Nat → ClassId} : ct_ok l D kA GG y_Mo_pointsOf z_Mo_pointsOf e_Mo_pointsOf := chk_all_ok (FT := [(129, 13, 64), (1020, 13, 139)]) (PT := []) (CT := t_Mo_pointsOf_ct) (KT := []) (NT := []) (AN := n_Mo_pointsOf_an) (OT := []) 0 200 (List.forall_mem_nil _) (by decide +kernel) ⟨List.forall_mem_cons.mpr ⟨gf_Mo_129, List.forall_mem_cons.mpr ⟨gf_Mo_1020, List.forall_mem_nil _⟩⟩, List.forall_mem_nil _, List.forall_mem_nil _, List.forall_mem_nil _, List.forall_mem_nil _⟩ (by decide +kernel)
def n_Mo_px_an : List an_T := []
def t_Mo_px_ct : ct_L := []
set_option maxRecDepth 100000 in
theorem c_Mo_px {l : Launch} {D : va_G} {kA : Nat → ClassId} : ct_ok l D kA GG y_Mo_px z_Mo_px e_Mo_px := chk_all_ok (FT := [(123, 13, 62), (1020, 13, 139)]) (PT := []) (CT := t_Mo_px_ct) (KT := []) (NT := []) (AN := n_Mo_px_an) (OT := []) 0 200 (List.forall_mem_nil _) (by decide +kernel) ⟨List.forall_mem_cons.mpr ⟨gf_Mo_123, List.forall_mem_cons.mpr ⟨gf_Mo_1020, List.forall_mem_nil _⟩⟩, List.forall_mem_nil _, List.forall_mem_nil _, List.forall_mem_nil _, List.forall_mem_nil _⟩ (by decide +kernel)
def n_Mo_py_an : List an_T := []
def t_Mo_py_ct : ct_L := []
set_option maxRecDepth 100000 in
theorem c_Mo_py {l : Launch} {D : va_G} {kA : Nat → ClassId} : ct_ok l D kA GG y_Mo_py z_Mo_py e_Mo_py := chk_all_ok (FT := [(126, 13, 63), (1020, 13, 139)]) (PT := []) (CT := t_Mo_py_ct) (KT := []) (NT := []) (AN := n_Mo_py_an) (OT := []) 0 200 (List.forall_mem_nil _) (by decide +kernel) ⟨List.forall_mem_cons.mpr ⟨gf_Mo_126, List.forall_mem_cons.mpr ⟨gf_Mo_1020, List.forall_mem_nil _⟩⟩, List.forall_mem_nil _, List.forall_mem_nil _, List.forall_mem_nil _, List.forall_mem_nil _⟩ (by decide +kernel)
def n_Mo_rowOf_an : List an_T := []
def t_Mo_rowOf_ct : ct_L := []
set_option maxRecDepth 100000 in
theorem c_Mo_rowOf {l : Launch} {D : va_G} {kA : Nat → ClassId} : ct_ok l D kA GG y_Mo_rowOf z_Mo_rowOf e_Mo_rowOf := chk_all_ok (FT := []) (PT := []) (CT := t_Mo_rowOf_ct) (KT := []) (NT := []) (AN := n_Mo_rowOf_an) (OT := []) 0 200 (List.forall_mem_nil _) (by decide +kernel) ⟨List.forall_mem_nil _, List.forall_mem_nil _, List.forall_mem_nil _, List.forall_mem_nil _, List.forall_mem_nil _⟩ (by decide +kernel)
def n_Mo_shareNew_an : List an_T := []
def t_Mo_shareNew_ct : ct_L := []
set_option maxRecDepth 100000 in
theorem c_Mo_shareNew {l : Launch} {D : va_G} {kA : Nat → ClassId} : ct_ok l D kA GG y_Mo_shareNew z_Mo_shareNew e_Mo_shareNew := chk_all_ok (FT := [(57, 13, 33), (60, 13, 34), (81, 13, 42)]) (PT := []) (CT := t_Mo_shareNew_ct) (KT := []) (NT := []) (AN := n_Mo_shareNew_an) (OT := []) 0 1088 (List.forall_mem_nil _) (by decide +kernel) ⟨List.forall_mem_cons.mpr ⟨gf_Mo_57, List.forall_mem_cons.mpr ⟨gf_Mo_60, List.forall_mem_cons.mpr ⟨gf_Mo_81, List.forall_mem_nil _⟩⟩⟩, List.forall_mem_nil _, List.forall_mem_nil _, List.forall_mem_nil _, List.forall_mem_nil _⟩ (by decide +kernel)
def n_Mo_sign_an : List an_T := []
def t_Mo_sign_ct : ct_L := []
set_option maxRecDepth 100000 in
theorem c_Mo_sign {l : Launch} {D : va_G} {kA : Nat → ClassId} : ct_ok l D kA GG y_Mo_sign z_Mo_sign e_Mo_sign := chk_all_ok (FT := [(413, 13, 8), (434, 13, 12), (437, 13, 14)]) (PT := []) (CT := t_Mo_sign_ct) (KT := []) (NT := []) (AN := n_Mo_sign_an) (OT := []) 0 200 (List.forall_mem_nil _) (by decide +kernel) ⟨List.forall_mem_cons.mpr ⟨gf_Mo_413, List.forall_mem_cons.mpr ⟨gf_Mo_434, List.forall_mem_cons.mpr ⟨gf_Mo_437, List.forall_mem_nil _⟩⟩⟩, List.forall_mem_nil _, List.forall_mem_nil _, List.forall_mem_nil _, List.forall_mem_nil _⟩ (by decide +kernel)
def n_Mo_signOf_an : List an_T := []
def t_Mo_signOf_ct : ct_L := []
set_option maxRecDepth 100000 in
theorem c_Mo_signOf {l : Launch} {D : va_G} {kA : Nat → ClassId} : ct_ok l D kA GG y_Mo_signOf z_Mo_signOf e_Mo_signOf := chk_all_ok (FT := []) (PT := []) (CT := t_Mo_signOf_ct) (KT := []) (NT := []) (AN := n_Mo_signOf_an) (OT := []) 0 200 (List.forall_mem_nil _) (by decide +kernel) ⟨List.forall_mem_nil _, List.forall_mem_nil _, List.forall_mem_nil _, List.forall_mem_nil _, List.forall_mem_nil _⟩ (by decide +kernel)
def n_Mo_size_an : List an_T := []
def t_Mo_size_ct : ct_L := []
set_option maxRecDepth 100000 in
theorem c_Mo_size {l : Launch} {D : va_G} {kA : Nat → ClassId} : ct_ok l D kA GG y_Mo_size z_Mo_size e_Mo_size := chk_all_ok (FT := [(16, 13, 2), (391, 13, 5)]) (PT := []) (CT := t_Mo_size_ct) (KT := []) (NT := []) (AN := n_Mo_size_an) (OT := []) 0 200 (List.forall_mem_nil _) (by decide +kernel) ⟨List.forall_mem_cons.mpr ⟨gf_Mo_16, List.forall_mem_cons.mpr ⟨gf_Mo_391, List.forall_mem_nil _⟩⟩, List.forall_mem_nil _, List.forall_mem_nil _, List.forall_mem_nil _, List.forall_mem_nil _⟩ (by decide +kernel)
def n_Mo_styleSign_an : List an_T := []
def t_Mo_styleSign_ct : ct_L := []
set_option maxRecDepth 100000 in
theorem c_Mo_styleSign {l : Launch} {D : va_G} {kA : Nat → ClassId} : ct_ok l D kA GG y_Mo_styleSign z_Mo_styleSign e_Mo_styleSign := chk_all_ok (FT := [(342, 13, 160), (345, 13, 161), (413, 13, 8), (1169, 13, 158)]) (PT := []) (CT := t_Mo_styleSign_ct) (KT := []) (NT := []) (AN := n_Mo_styleSign_an) (OT := []) 0 200 (List.forall_mem_nil _) (by decide +kernel) ⟨List.forall_mem_cons.mpr ⟨gf_Mo_342, List.forall_mem_cons.mpr ⟨gf_Mo_345, List.forall_mem_cons.mpr ⟨gf_Mo_413, List.forall_mem_cons.mpr ⟨gf_Mo_1169, List.forall_mem_nil _⟩⟩⟩⟩, List.forall_mem_nil _, List.forall_mem_nil _, List.forall_mem_nil _, List.forall_mem_nil _⟩ (by decide +kernel)
def n_Mo_tail_an : List an_T := []
def t_Mo_tail_ct : ct_L := []
set_option maxRecDepth 100000 in
theorem c_Mo_tail {l : Launch} {D : va_G} {kA : Nat → ClassId} : ct_ok l D kA GG y_Mo_tail z_Mo_tail e_Mo_tail := chk_all_ok (FT := [(16, 13, 2), (391, 13, 5)]) (PT := []) (CT := t_Mo_tail_ct) (KT := []) (NT := []) (AN := n_Mo_tail_an) (OT := []) 0 200 (List.forall_mem_nil _) (by decide +kernel) ⟨List.forall_mem_cons.mpr ⟨gf_Mo_16, List.forall_mem_cons.mpr ⟨gf_Mo_391, List.forall_mem_nil _⟩⟩, List.forall_mem_nil _, List.forall_mem_nil _, List.forall_mem_nil _, List.forall_mem_nil _⟩ (by decide +kernel)
def n_Mo_toOf_an : List an_T := []
def t_Mo_toOf_ct : ct_L := []
set_option maxRecDepth 100000 in
theorem c_Mo_toOf {l : Launch} {D : va_G} {kA : Nat → ClassId} : ct_ok l D kA GG y_Mo_toOf z_Mo_toOf e_Mo_toOf := chk_all_ok (FT := [(57, 13, 33), (60, 13, 34)]) (PT := []) (CT := t_Mo_toOf_ct) (KT := []) (NT := []) (AN := n_Mo_toOf_an) (OT := []) 0 200 (List.forall_mem_nil _) (by decide +kernel) ⟨List.forall_mem_cons.mpr ⟨gf_Mo_57, List.forall_mem_cons.mpr ⟨gf_Mo_60, List.forall_mem_nil _⟩⟩, List.forall_mem_nil _, List.forall_mem_nil _, List.forall_mem_nil _, List.forall_mem_nil _⟩ (by decide +kernel)
def n_Mo_turnOf_an : List an_T := []
def t_Mo_turnOf_ct : ct_L := []
set_option maxRecDepth 100000 in
theorem c_Mo_turnOf {l : Launch} {D : va_G} {kA : Nat → ClassId} : ct_ok l D kA GG y_Mo_turnOf z_Mo_turnOf e_Mo_turnOf := chk_all_ok (FT := []) (PT := []) (CT := t_Mo_turnOf_ct) (KT := []) (NT := []) (AN := n_Mo_turnOf_an) (OT := []) 0 200 (List.forall_mem_nil _) (by decide +kernel) ⟨List.forall_mem_nil _, List.forall_mem_nil _, List.forall_mem_nil _, List.forall_mem_nil _, List.forall_mem_nil _⟩ (by decide +kernel)
def n_Mo_weight_an : List an_T := []
def t_Mo_weight_ct : ct_L := []
set_option maxRecDepth 100000 in
theorem c_Mo_weight {l : Launch} {D : va_G} {kA : Nat → ClassId} : ct_ok l D kA GG y_Mo_weight z_Mo_weight e_Mo_weight := chk_all_ok (FT := [(16, 13, 2), (391, 13, 5)]) (PT := []) (CT := t_Mo_weight_ct) (KT := []) (NT := []) (AN := n_Mo_weight_an) (OT := []) 0 200 (List.forall_mem_nil _) (by decide +kernel) ⟨List.forall_mem_cons.mpr ⟨gf_Mo_16, List.forall_mem_cons.mpr ⟨gf_Mo_391, List.forall_mem_nil _⟩⟩, List.forall_mem_nil _, List.forall_mem_nil _, List.forall_mem_nil _, List.forall_mem_nil _⟩ (by decide +kernel)
def n_Mo_wrong_an : List an_T := []
def t_Mo_wrong_ct : ct_L := []
set_option maxRecDepth 100000 in
theorem c_Mo_wrong {l : Launch} {D : va_G} {kA : Nat → ClassId} : ct_ok l D kA GG y_Mo_wrong z_Mo_wrong e_Mo_wrong := chk_all_ok (FT := [(413, 13, 8)]) (PT := [(413, 13, 8, .int), (416, 13, 9, .int)]) (CT := t_Mo_wrong_ct) (KT := []) (NT := []) (AN := n_Mo_wrong_an) (OT := []) 0 200 (List.forall_mem_nil _) (by decide +kernel) ⟨List.forall_mem_cons.mpr ⟨gf_Mo_413, List.forall_mem_nil _⟩, List.forall_mem_cons.mpr ⟨pf_Mo_413, List.forall_mem_cons.mpr ⟨pf_Mo_416, List.forall_mem_nil _⟩⟩, List.forall_mem_nil _, List.forall_mem_nil _, List.forall_mem_nil _⟩ (by decide +kernel)
def n_Ho_feed_an : List an_T := []
def t_Ho_feed_ct : ct_L := [(1, 111, e_Re_append)]
set_option maxRecDepth 100000 in
theorem c_Ho_feed {l : Launch} {D : va_G} {kA : Nat → ClassId} (h_Re_append : ct_ok l D kA GG y_Re_append z_Re_append e_Re_append) : ct_ok l D kA GG y_Ho_feed z_Ho_feed e_Ho_feed := chk_all_ok (FT := [(38, 12, 4), (108, 8, 1)]) (PT := []) (CT := t_Ho_feed_ct) (KT := []) (NT := []) (AN := n_Ho_feed_an) (OT := []) 0 200 (List.forall_mem_nil _) (by decide +kernel) ⟨List.forall_mem_cons.mpr ⟨gf_Ho_38, List.forall_mem_cons.mpr ⟨gf_Ho_108, List.forall_mem_nil _⟩⟩, List.forall_mem_nil _, List.forall_mem_cons.mpr ⟨cl_virtual (y := y_Re_append) (ci := 8) rfl rfl ⟨_, _, rfl⟩ (by decide +kernel) h_Re_append wm_626 wm_2 wm_623 wm_624 wm_625 ⟨by decide, by decide, by decide +kernel⟩ (by decide), List.forall_mem_nil _⟩, List.forall_mem_nil _, List.forall_mem_nil _⟩ (by decide +kernel)
def n_Ho_hasDrawing_an : List an_T := []
def t_Ho_hasDrawing_ct : ct_L := [(0, 115, e_Ho_isPlace)]
set_option maxRecDepth 100000 in
theorem c_Ho_hasDrawing {l : Launch} {D : va_G} {kA : Nat → ClassId} (h_Ho_isPlace : ct_ok l D kA GG y_Ho_isPlace z_Ho_isPlace e_Ho_isPlace) : ct_ok l D kA GG y_Ho_hasDrawing z_Ho_hasDrawing e_Ho_hasDrawing := chk_all_ok (FT := [(31, 12, 3), (309, 0, 1)]) (PT := []) (CT := t_Ho_hasDrawing_ct) (KT := []) (NT := []) (AN := n_Ho_hasDrawing_an) (OT := []) 0 200 (List.forall_mem_nil _) (by decide +kernel) ⟨List.forall_mem_cons.mpr ⟨gf_Ho_31, List.forall_mem_cons.mpr ⟨gf_Ho_309, List.forall_mem_nil _⟩⟩, List.forall_mem_nil _, List.forall_mem_cons.mpr ⟨cl_static (y := y_Ho_isPlace) h_Ho_isPlace wm_633 wm_1 wm_631 wm_632 ⟨by decide, by decide, by decide +kernel⟩ (by decide), List.forall_mem_nil _⟩, List.forall_mem_nil _, List.forall_mem_nil _⟩ (by decide +kernel)
def n_Ho_writeName_at_GrgroupName_an : List an_T := [(3, [(0, (2, 0, 0, [12])), (1, (2, 0, 0, [57])), (2, (0, 1, 7, [])), (3, (0, 0, 8, [])), (4, (0, 0, 8, []))], [], (0, 0), [(0, 0, 99997), (1, 4, 8), (0, 0, 100000)], [], [], [], 0, [], [])]
def t_Ho_writeName_at_GrgroupName_ct : ct_L := [(1, 447, e_Ho_writeByte)]
set_option maxRecDepth 100000 in
theorem c_Ho_writeName_at_GrgroupName {l : Launch} {D : va_G} {kA : Nat → ClassId} (h_Ho_writeByte : ct_ok l D kA GG y_Ho_writeByte z_Ho_writeByte e_Ho_writeByte) : ct_ok l D kA GG y_Ho_writeName_at_GrgroupName z_Ho_writeName_at_GrgroupName e_Ho_writeName_at_GrgroupName := chk_all_ok (FT := []) (PT := []) (CT := t_Ho_writeName_at_GrgroupName_ct) (KT := []) (NT := []) (AN := n_Ho_writeName_at_GrgroupName_an) (OT := []) 3 200 (List.forall_mem_nil _) (by decide +kernel) ⟨List.forall_mem_nil _, List.forall_mem_nil _, List.forall_mem_cons.mpr ⟨cl_virtual (y := y_Ho_writeByte) (ci := 12) rfl rfl ⟨_, _, rfl⟩ (by decide +kernel) h_Ho_writeByte wm_2345 wm_1 wm_2342 wm_2344 wv_12_0 ⟨by decide, by decide, by decide +kernel⟩ (by decide), List.forall_mem_nil _⟩, List.forall_mem_nil _, List.forall_mem_nil _⟩ (by decide +kernel)
def n_Ho_writeName_at_Grname_an : List an_T := [(3, [(0, (2, 0, 0, [12])), (1, (2, 0, 0, [48])), (2, (0, 0, 23, [])), (3, (0, 0, 8, [])), (4, (0, 0, 8, []))], [], (0, 0), [(0, 0, 99997), (1, 4, 8), (0, 0, 100000)], [], [], [], 0, [], [])]
def t_Ho_writeName_at_Grname_ct : ct_L := [(1, 447, e_Ho_writeByte)]
set_option maxRecDepth 100000 in
theorem c_Ho_writeName_at_Grname {l : Launch} {D : va_G} {kA : Nat → ClassId} (h_Ho_writeByte : ct_ok l D kA GG y_Ho_writeByte z_Ho_writeByte e_Ho_writeByte) : ct_ok l D kA GG y_Ho_writeName_at_Grname z_Ho_writeName_at_Grname e_Ho_writeName_at_Grname := chk_all_ok (FT := []) (PT := []) (CT := t_Ho_writeName_at_Grname_ct) (KT := []) (NT := []) (AN := n_Ho_writeName_at_Grname_an) (OT := []) 3 200 (List.forall_mem_nil _) (by decide +kernel) ⟨List.forall_mem_nil _, List.forall_mem_nil _, List.forall_mem_cons.mpr ⟨cl_virtual (y := y_Ho_writeByte) (ci := 12) rfl rfl ⟨_, _, rfl⟩ (by decide +kernel) h_Ho_writeByte wm_2345 wm_1 wm_2342 wm_2344 wv_12_0 ⟨by decide, by decide, by decide +kernel⟩ (by decide), List.forall_mem_nil _⟩, List.forall_mem_nil _, List.forall_mem_nil _⟩ (by decide +kernel)
def n_Dr_countUpward_an : List an_T := [(4, [(0, (2, 0, 0, [0])), (1, (1, -9223372036854775808, 9223372036854775807, [])), (3, (0, 0, 48, []))], [], (0, 0), [(0, 0, 99996), (1, 2, 48), (0, 0, 100000), (0, 0, 0), (0, 0, 0)], [], [], [], 0, [], []), (21, [(0, (2, 0, 0, [0])), (1, (1, -9223372036854775808, 9223372036854775807, [])), (3, (0, 0, 47, [])), (4, (0, 0, 1, [])), (5, (0, 0, 25, []))], [], (0, 0), [(0, 0, 99996), (1, 2, 48), (0, 0, 99979), (1, 4, 25), (0, 0, 100000)], [], [], [], 0, [], [])]
def t_Dr_countUpward_ct : ct_L := [(1, 134, e_Dr_pointY)]
set_option maxRecDepth 100000 in
theorem c_Dr_countUpward {l : Launch} {D : va_G} {kA : Nat → ClassId} (h_Dr_pointY : ct_ok l D kA GG y_Dr_pointY z_Dr_pointY e_Dr_pointY) : ct_ok l D kA GG y_Dr_countUpward z_Dr_countUpward e_Dr_countUpward := chk_all_ok (FT := [(22, 0, 4), (74, 0, 0), (151, 3, 1)]) (PT := []) (CT := t_Dr_countUpward_ct) (KT := []) (NT := []) (AN := n_Dr_countUpward_an) (OT := []) 5 460 (List.forall_mem_nil _) (by decide +kernel) ⟨List.forall_mem_cons.mpr ⟨gf_Dr_22, List.forall_mem_cons.mpr ⟨gf_Dr_74, List.forall_mem_cons.mpr ⟨gf_Dr_151, List.forall_mem_nil _⟩⟩⟩, List.forall_mem_nil _, List.forall_mem_cons.mpr ⟨cl_virtual (y := y_Dr_pointY) (ci := 0) rfl rfl ⟨_, _, rfl⟩ (by decide +kernel) h_Dr_pointY wm_1991 wm_8 wm_1988 wm_1989 wm_1990 ⟨by decide, by decide, by decide +kernel⟩ (by decide), List.forall_mem_nil _⟩, List.forall_mem_nil _, List.forall_mem_nil _⟩ (by decide +kernel)
def n_Dr_dropBends_an : List an_T := []
def t_Dr_dropBends_ct : ct_L := [(18, 78, e_jArr_fill1_v0)]
set_option maxRecDepth 100000 in
theorem c_Dr_dropBends {l : Launch} {D : va_G} {kA : Nat → ClassId} : ct_ok l D kA GG y_Dr_dropBends z_Dr_dropBends e_Dr_dropBends := chk_all_ok (FT := [(22, 0, 4)]) (PT := []) (CT := t_Dr_dropBends_ct) (KT := []) (NT := []) (AN := n_Dr_dropBends_an) (OT := []) 0 200 (List.forall_mem_nil _) (by decide +kernel) ⟨List.forall_mem_cons.mpr ⟨gf_Dr_22, List.forall_mem_nil _⟩, List.forall_mem_nil _, List.forall_mem_cons.mpr ⟨cl_static (y := y_jArr_fill1) c_jArr_fill1_v0 wm_55 wm_4 wm_798 wm_54 ⟨by decide, by decide, by decide +kernel⟩ (by decide), List.forall_mem_nil _⟩, List.forall_mem_nil _, List.forall_mem_nil _⟩ (by decide +kernel)
def n_Dr_scaledX_an : List an_T := []
def t_Dr_scaledX_ct : ct_L := [(63, 157, e_jMath_max1_v1)]
set_option maxRecDepth 100000 in
theorem c_Dr_scaledX {l : Launch} {D : va_G} {kA : Nat → ClassId} : ct_ok l D kA GG y_Dr_scaledX z_Dr_scaledX e_Dr_scaledX := chk_all_ok (FT := [(62, 0, 17), (68, 0, 19)]) (PT := []) (CT := t_Dr_scaledX_ct) (KT := []) (NT := []) (AN := n_Dr_scaledX_an) (OT := []) 0 200 (List.forall_mem_nil _) (by decide +kernel) ⟨List.forall_mem_cons.mpr ⟨gf_Dr_62, List.forall_mem_cons.mpr ⟨gf_Dr_68, List.forall_mem_nil _⟩⟩, List.forall_mem_nil _, List.forall_mem_cons.mpr ⟨cl_static (y := y_jMath_max1) c_jMath_max1_v1 wm_836 wm_10 wm_2025 wm_835 ⟨by decide, by decide, by decide +kernel⟩ (by decide), List.forall_mem_nil _⟩, List.forall_mem_nil _, List.forall_mem_nil _⟩ (by decide +kernel)
def n_Dr_scaledY_an : List an_T := []
def t_Dr_scaledY_ct : ct_L := [(63, 157, e_jMath_max1_v1)]
set_option maxRecDepth 100000 in
theorem c_Dr_scaledY {l : Launch} {D : va_G} {kA : Nat → ClassId} : ct_ok l D kA GG y_Dr_scaledY z_Dr_scaledY e_Dr_scaledY := chk_all_ok (FT := [(65, 0, 18), (71, 0, 20)]) (PT := []) (CT := t_Dr_scaledY_ct) (KT := []) (NT := []) (AN := n_Dr_scaledY_an) (OT := []) 0 200 (List.forall_mem_nil _) (by decide +kernel) ⟨List.forall_mem_cons.mpr ⟨gf_Dr_65, List.forall_mem_cons.mpr ⟨gf_Dr_71, List.forall_mem_nil _⟩⟩, List.forall_mem_nil _, List.forall_mem_cons.mpr ⟨cl_static (y := y_jMath_max1) c_jMath_max1_v1 wm_836 wm_10 wm_2025 wm_835 ⟨by decide, by decide, by decide +kernel⟩ (by decide), List.forall_mem_nil _⟩, List.forall_mem_nil _, List.forall_mem_nil _⟩ (by decide +kernel)
def n_Dr_wipe_an : List an_T := []
def t_Dr_wipe_ct : ct_L := [(33, 78, e_jArr_fill1_v2)]
set_option maxRecDepth 100000 in
theorem c_Dr_wipe {l : Launch} {D : va_G} {kA : Nat → ClassId} : ct_ok l D kA GG y_Dr_wipe z_Dr_wipe e_Dr_wipe := chk_all_ok (FT := [(53, 0, 14)]) (PT := [(9, 0, 1, .int)]) (CT := t_Dr_wipe_ct) (KT := []) (NT := []) (AN := n_Dr_wipe_an) (OT := []) 0 200 (List.forall_mem_nil _) (by decide +kernel) ⟨List.forall_mem_cons.mpr ⟨gf_Dr_53, List.forall_mem_nil _⟩, List.forall_mem_cons.mpr ⟨pf_Dr_9, List.forall_mem_nil _⟩, List.forall_mem_cons.mpr ⟨cl_static (y := y_jArr_fill1) c_jArr_fill1_v2 wm_55 wm_4 wm_798 wm_54 ⟨by decide, by decide, by decide +kernel⟩ (by decide), List.forall_mem_nil _⟩, List.forall_mem_nil _, List.forall_mem_nil _⟩ (by decide +kernel)
def n_Em_drawWay_an : List an_T := [(2, [(0, (2, 0, 0, [1])), (1, (0, 0, 26, []))], [], (0, 0), [(0, 0, 99998), (1, 1, 26), (0, 0, 100000)], [], [((0, 0), (2, 0, 0, [5, 149]))], [], 0, [], [])]
def t_Em_drawWay_ct : ct_L := [(1, 176, e_Ne_edgeBetween)]
set_option maxRecDepth 100000 in
theorem c_Em_drawWay {l : Launch} {D : va_G} {kA : Nat → ClassId} (h_Ne_edgeBetween : ct_ok l D kA GG y_Ne_edgeBetween z_Ne_edgeBetween e_Ne_edgeBetween) : ct_ok l D kA GG y_Em_drawWay z_Em_drawWay e_Em_drawWay := chk_all_ok (FT := [(9, 1, 0), (25, 1, 3), (60, 1, 14), (63, 1, 15)]) (PT := []) (CT := t_Em_drawWay_ct) (KT := []) (NT := []) (AN := n_Em_drawWay_an) (OT := []) 3 200 (List.forall_mem_nil _) (by decide +kernel) ⟨List.forall_mem_cons.mpr ⟨gf_Em_9, List.forall_mem_cons.mpr ⟨gf_Em_25, List.forall_mem_cons.mpr ⟨gf_Em_60, List.forall_mem_cons.mpr ⟨gf_Em_63, List.forall_mem_nil _⟩⟩⟩⟩, List.forall_mem_nil _, List.forall_mem_cons.mpr ⟨cl_virtual (y := y_Ne_edgeBetween) (ci := 5) rfl rfl ⟨_, _, rfl⟩ (by decide +kernel) h_Ne_edgeBetween wm_1089 wm_6 wm_1086 wm_1087 wm_1088 ⟨by decide, by decide, by decide +kernel⟩ (by decide), List.forall_mem_nil _⟩, List.forall_mem_nil _, List.forall_mem_nil _⟩ (by decide +kernel)
def n_Fa_learnBlocksAt_an : List an_T := [(5, [(0, (2, 0, 0, [2])), (1, (2, 0, 0, [3])), (2, (0, 0, 48, []))], [], (0, 0), [(0, 0, 99995), (1, 2, 48), (0, 0, 100000), (0, 0, 0), (0, 0, 0)], [], [], [], 0, [], []), (26, [(0, (2, 0, 0, [2])), (1, (2, 0, 0, [3])), (2, (0, 0, 24, []))], [], (0, 0), [(0, 0, 99974), (1, 2, 24), (0, 0, 100000), (0, 0, 0), (0, 0, 0)], [], [], [], 0, [], []), (39, [(0, (2, 0, 0, [2])), (1, (2, 0, 0, [3])), (2, (0, 0, 23, [])), (3, (1, -9223372036854775808, 9223372036854775807, [])), (5, (0, 0, 48, []))], [], (0, 0), [(0, 0, 99974), (1, 2, 24), (0, 0, 99961), (1, 4, 48), (0, 0, 100000)], [], [], [], 0, [], [])]
def t_Fa_learnBlocksAt_ct : ct_L := [(285, 134, e_jLong_bitCount_v3)]
set_option maxRecDepth 100000 in
theorem c_Fa_learnBlocksAt {l : Launch} {D : va_G} {kA : Nat → ClassId} : ct_ok l D kA GG y_Fa_learnBlocksAt z_Fa_learnBlocksAt e_Fa_learnBlocksAt := chk_all_ok (FT := [(29, 2, 5), (38, 2, 8), (64, 3, 0), (69, 3, 1), (72, 3, 7), (75, 3, 8)]) (PT := []) (CT := t_Fa_learnBlocksAt_ct) (KT := []) (NT := []) (AN := n_Fa_learnBlocksAt_an) (OT := []) 5 288 (List.forall_mem_nil _) (by decide +kernel) ⟨List.forall_mem_cons.mpr ⟨gf_Fa_29, List.forall_mem_cons.mpr ⟨gf_Fa_38, List.forall_mem_cons.mpr ⟨gf_Fa_64, List.forall_mem_cons.mpr ⟨gf_Fa_69, List.forall_mem_cons.mpr ⟨gf_Fa_72, List.forall_mem_cons.mpr ⟨gf_Fa_75, List.forall_mem_nil _⟩⟩⟩⟩⟩⟩, List.forall_mem_nil _, List.forall_mem_cons.mpr ⟨cl_static (y := y_jLong_bitCount) c_jLong_bitCount_v3 wm_847 wm_16 wm_845 wm_846 ⟨by decide, by decide, by decide +kernel⟩ (by decide), List.forall_mem_nil _⟩, List.forall_mem_nil _, List.forall_mem_nil _⟩ (by decide +kernel)
def n_Fa_lowest_an : List an_T := []
def t_Fa_lowest_ct : ct_L := [(21, 101, e_jInt_bitCount_v4)]
set_option maxRecDepth 100000 in
theorem c_Fa_lowest {l : Launch} {D : va_G} {kA : Nat → ClassId} : ct_ok l D kA GG y_Fa_lowest z_Fa_lowest e_Fa_lowest := chk_all_ok (FT := []) (PT := []) (CT := t_Fa_lowest_ct) (KT := []) (NT := []) (AN := n_Fa_lowest_an) (OT := []) 0 200 (List.forall_mem_nil _) (by decide +kernel) ⟨List.forall_mem_nil _, List.forall_mem_nil _, List.forall_mem_cons.mpr ⟨cl_static (y := y_jInt_bitCount) c_jInt_bitCount_v4 wm_870 wm_17 wm_868 wm_869 ⟨by decide, by decide, by decide +kernel⟩ (by decide), List.forall_mem_nil _⟩, List.forall_mem_nil _, List.forall_mem_nil _⟩ (by decide +kernel)
def n_Fa_numberStrong_an : List an_T := [(2, [(0, (2, 0, 0, [2])), (1, (0, 0, 24, [])), (2, (2, 0, 0, [39, 44])), (3, (0, 0, 24, []))], [], (0, 0), [(0, 0, 99998), (1, 3, 24), (0, 0, 100000), (0, 0, 0), (0, 0, 0)], [(1, 3, -1000000000000, 24), (3, 1, -1000000000000, 0)], [], [], 0, [], []), (10, [(0, (2, 0, 0, [2])), (1, (0, 1, 24, [])), (2, (2, 0, 0, [39, 44])), (3, (0, 0, 23, [])), (4, (0, 0, 24, []))], [], (0, 0), [(0, 0, 99998), (1, 3, 24), (0, 0, 99990), (1, 4, 24), (0, 0, 100000)], [(1, 3, -1000000000000, 24), (1, 4, -1000000000000, 24), (3, 1, -1000000000000, -1), (4, 1, -1000000000000, 0)], [], [], 0, [], []), (68, [(0, (2, 0, 0, [2])), (1, (0, 0, 24, [])), (2, (2, 0, 0, [39, 44])), (3, (0, 0, 24, [])), (4, (0, 0, 24, []))], [], (0, 0), [(0, 0, 99932), (1, 4, 24), (0, 0, 100000), (0, 0, 0), (0, 0, 0)], [(3, 1, -1000000000000, 0), (3, 4, -1000000000000, 0), (4, 1, -1000000000000, 0)], [], [], 0, [], []), (93, [(0, (2, 0, 0, [2])), (1, (0, 1, 24, [])), (2, (2, 0, 0, [39, 44])), (3, (0, 0, 23, [])), (4, (0, 0, 23, [])), (5, (0, 1, 24, []))], [], (0, 0), [(0, 0, 99932), (1, 4, 24), (0, 0, 99907), (1, 5, 24), (0, 0, 100000)], [(3, 1, -1000000000000, -1), (3, 4, -1000000000000, 0), (3, 5, -1000000000000, -1), (4, 1, -1000000000000, -1), (4, 5, -1000000000000, -1), (5, 1, -1000000000000, 0)], [], [], 0, [], [])]
def t_Fa_numberStrong_ct : ct_L := [(189, 139, e_jArr_fill1_v5)]
set_option maxRecDepth 100000 in
theorem c_Fa_numberStrong {l : Launch} {D : va_G} {kA : Nat → ClassId} : ct_ok l D kA GG y_Fa_numberStrong z_Fa_numberStrong e_Fa_numberStrong := chk_all_ok (FT := [(45, 2, 10)]) (PT := []) (CT := t_Fa_numberStrong_ct) (KT := []) (NT := []) (AN := n_Fa_numberStrong_an) (OT := []) 5 388 (List.forall_mem_nil _) (by decide +kernel) ⟨List.forall_mem_cons.mpr ⟨gf_Fa_45, List.forall_mem_nil _⟩, List.forall_mem_nil _, List.forall_mem_cons.mpr ⟨cl_static (y := y_jArr_fill1) c_jArr_fill1_v5 wm_55 wm_4 wm_855 wm_54 ⟨by decide, by decide, by decide +kernel⟩ (by decide), List.forall_mem_nil _⟩, List.forall_mem_nil _, List.forall_mem_nil _⟩ (by decide +kernel)
def n_Fa_peel_an : List an_T := [(6, [(0, (2, 0, 0, [2])), (1, (2, 0, 0, [3])), (2, (0, 0, 16777215, [])), (3, (0, 0, 23, [])), (4, (0, 0, 16777215, [])), (5, (0, 0, 24, []))], [], (0, 0), [(0, 0, 99994), (1, 5, 24), (0, 0, 100000)], [], [], [], 0, [], [])]
def t_Fa_peel_ct : ct_L := [(108, 101, e_jInt_bitCount_v6)]
set_option maxRecDepth 100000 in
theorem c_Fa_peel {l : Launch} {D : va_G} {kA : Nat → ClassId} : ct_ok l D kA GG y_Fa_peel z_Fa_peel e_Fa_peel := chk_all_ok (FT := [(35, 2, 7), (64, 3, 0), (78, 3, 14)]) (PT := []) (CT := t_Fa_peel_ct) (KT := []) (NT := []) (AN := n_Fa_peel_an) (OT := []) 3 200 (List.forall_mem_nil _) (by decide +kernel) ⟨List.forall_mem_cons.mpr ⟨gf_Fa_35, List.forall_mem_cons.mpr ⟨gf_Fa_64, List.forall_mem_cons.mpr ⟨gf_Fa_78, List.forall_mem_nil _⟩⟩⟩, List.forall_mem_nil _, List.forall_mem_cons.mpr ⟨cl_static (y := y_jInt_bitCount) c_jInt_bitCount_v6 wm_870 wm_17 wm_868 wm_869 ⟨by decide, by decide, by decide +kernel⟩ (by decide), List.forall_mem_nil _⟩, List.forall_mem_nil _, List.forall_mem_nil _⟩ (by decide +kernel)
def n_Fa_pickLast_an : List an_T := [(5, [(0, (2, 0, 0, [2])), (1, (2, 0, 0, [3])), (2, (0, 0, 16777215, [])), (3, (0, 8, 24, [])), (4, (0, -1, 23, []))], [], (0, 0), [(0, 0, 99995), (2, 4, -1), (0, 0, 100000)], [], [], [], 0, [], [])]
def t_Fa_pickLast_ct : ct_L := [(0, 186, e_Fa_weights)]
set_option maxRecDepth 100000 in
theorem c_Fa_pickLast {l : Launch} {D : va_G} {kA : Nat → ClassId} (h_Fa_weights : ct_ok l D kA GG y_Fa_weights z_Fa_weights e_Fa_weights) : ct_ok l D kA GG y_Fa_pickLast z_Fa_pickLast e_Fa_pickLast := chk_all_ok (FT := [(54, 2, 13)]) (PT := []) (CT := t_Fa_pickLast_ct) (KT := []) (NT := []) (AN := n_Fa_pickLast_an) (OT := []) 3 200 (List.forall_mem_nil _) (by decide +kernel) ⟨List.forall_mem_cons.mpr ⟨gf_Fa_54, List.forall_mem_nil _⟩, List.forall_mem_nil _, List.forall_mem_cons.mpr ⟨cl_static (y := y_Fa_weights) h_Fa_weights wm_892 wm_7 wm_890 wm_891 ⟨by decide, by decide, by decide +kernel⟩ (by decide), List.forall_mem_nil _⟩, List.forall_mem_nil _, List.forall_mem_nil _⟩ (by decide +kernel)
def n_Fa_spread_at_Grnear_an : List an_T := [(12, [(0, (2, 0, 0, [59])), (1, (0, 1, 24, [])), (2, (0, 1, 8388608, [])), (3, (0, -1, 16777215, [])), (4, (0, 0, 16777215, [])), (5, (0, 0, 16777215, [])), (6, (0, 0, 24, []))], [], (0, 0), [(0, 0, 99988), (1, 6, 24), (0, 0, 100000)], [], [], [], 0, [], [])]
def t_Fa_spread_at_Grnear_ct : ct_L := [(84, 97, e_Fa_nearOf_at_Grnear)]
set_option maxRecDepth 100000 in
theorem c_Fa_spread_at_Grnear {l : Launch} {D : va_G} {kA : Nat → ClassId} (h_Fa_nearOf_at_Grnear : ct_ok l D kA GG y_Fa_nearOf_at_Grnear z_Fa_nearOf_at_Grnear e_Fa_nearOf_at_Grnear) : ct_ok l D kA GG y_Fa_spread_at_Grnear z_Fa_spread_at_Grnear e_Fa_spread_at_Grnear := chk_all_ok (FT := []) (PT := []) (CT := t_Fa_spread_at_Grnear_ct) (KT := []) (NT := []) (AN := n_Fa_spread_at_Grnear_an) (OT := []) 3 200 (List.forall_mem_nil _) (by decide +kernel) ⟨List.forall_mem_nil _, List.forall_mem_nil _, List.forall_mem_cons.mpr ⟨cl_static (y := y_Fa_nearOf_at_Grnear) h_Fa_nearOf_at_Grnear wm_824 wm_7 wm_822 wm_823 ⟨by decide, by decide, by decide +kernel⟩ (by decide), List.forall_mem_nil _⟩, List.forall_mem_nil _, List.forall_mem_nil _⟩ (by decide +kernel)
def n_Fa_spread_at_Nenear_Npnear_an : List an_T := [(12, [(0, (2, 0, 0, [82, 142])), (1, (0, 0, 25, [])), (2, (0, 0, 33554431, [])), (3, (0, 0, 33554431, [])), (4, (0, 0, 33554431, [])), (5, (0, 0, 33554431, [])), (6, (0, 0, 25, []))], [], (0, 0), [(0, 0, 99988), (1, 6, 25), (0, 0, 100000)], [], [], [], 0, [], [])]
def t_Fa_spread_at_Nenear_Npnear_ct : ct_L := [(84, 97, e_Fa_nearOf_at_Nenear_Npnear)]
set_option maxRecDepth 100000 in
theorem c_Fa_spread_at_Nenear_Npnear {l : Launch} {D : va_G} {kA : Nat → ClassId} (h_Fa_nearOf_at_Nenear_Npnear : ct_ok l D kA GG y_Fa_nearOf_at_Nenear_Npnear z_Fa_nearOf_at_Nenear_Npnear e_Fa_nearOf_at_Nenear_Npnear) : ct_ok l D kA GG y_Fa_spread_at_Nenear_Npnear z_Fa_spread_at_Nenear_Npnear e_Fa_spread_at_Nenear_Npnear := chk_all_ok (FT := []) (PT := []) (CT := t_Fa_spread_at_Nenear_Npnear_ct) (KT := []) (NT := []) (AN := n_Fa_spread_at_Nenear_Npnear_an) (OT := []) 3 200 (List.forall_mem_nil _) (by decide +kernel) ⟨List.forall_mem_nil _, List.forall_mem_nil _, List.forall_mem_cons.mpr ⟨cl_static (y := y_Fa_nearOf_at_Nenear_Npnear) h_Fa_nearOf_at_Nenear_Npnear wm_824 wm_7 wm_822 wm_823 ⟨by decide, by decide, by decide +kernel⟩ (by decide), List.forall_mem_nil _⟩, List.forall_mem_nil _, List.forall_mem_nil _⟩ (by decide +kernel)
def n_Fa_weightOf_an : List an_T := []
def t_Fa_weightOf_ct : ct_L := [(1, 166, e_Gr_edgeBetween)]
set_option maxRecDepth 100000 in
theorem c_Fa_weightOf {l : Launch} {D : va_G} {kA : Nat → ClassId} (h_Gr_edgeBetween : ct_ok l D kA GG y_Gr_edgeBetween z_Gr_edgeBetween e_Gr_edgeBetween) : ct_ok l D kA GG y_Fa_weightOf z_Fa_weightOf e_Fa_weightOf := chk_all_ok (FT := [(72, 3, 7), (169, 3, 9)]) (PT := []) (CT := t_Fa_weightOf_ct) (KT := []) (NT := []) (AN := n_Fa_weightOf_an) (OT := []) 0 200 (List.forall_mem_nil _) (by decide +kernel) ⟨List.forall_mem_cons.mpr ⟨gf_Fa_72, List.forall_mem_cons.mpr ⟨gf_Fa_169, List.forall_mem_nil _⟩⟩, List.forall_mem_nil _, List.forall_mem_cons.mpr ⟨cl_virtual (y := y_Gr_edgeBetween) (ci := 3) rfl rfl ⟨_, _, rfl⟩ (by decide +kernel) h_Gr_edgeBetween wm_768 wm_3 wm_913 wm_766 wm_767 ⟨by decide, by decide, by decide +kernel⟩ (by decide), List.forall_mem_nil _⟩, List.forall_mem_nil _, List.forall_mem_nil _⟩ (by decide +kernel)
