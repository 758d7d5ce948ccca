def n_Mo_fits_an : List an_T := [(30, [(0, (2, 0, 0, [150])), (1, (0, 0, 23, [])), (2, (0, 0, 23, [])), (3, (0, 0, 1, [])), (4, (0, 0, 23, []))], [], (0, 0), [(0, 0, 99970), (1, 4, 23), (0, 0, 100000)], [], [], [], 0, [], [])]
def t_Mo_fits_ct : ct_L := [(1, 587, e_Mo_degree), (1, 590, e_Mo_edgeWay)]
set_option maxRecDepth 100000 in
theorem c_Mo_fits {l : Launch} {D : va_G} {kA : Nat → ClassId} (h_Mo_degree : ct_ok l D kA GG y_Mo_degree z_Mo_degree e_Mo_degree) (h_Mo_edgeWay : ct_ok l D kA GG y_Mo_edgeWay z_Mo_edgeWay e_Mo_edgeWay) : ct_ok l D kA GG y_Mo_fits z_Mo_fits e_Mo_fits := chk_all_ok (FT := [(54, 13, 24), (566, 13, 28), (569, 13, 29)]) (PT := []) (CT := t_Mo_fits_ct) (KT := []) (NT := []) (AN := n_Mo_fits_an) (OT := []) 3 216 (List.forall_mem_nil _) (by decide +kernel) ⟨List.forall_mem_cons.mpr ⟨gf_Mo_54, List.forall_mem_cons.mpr ⟨gf_Mo_566, List.forall_mem_cons.mpr ⟨gf_Mo_569, List.forall_mem_nil _⟩⟩⟩, List.forall_mem_nil _, List.forall_mem_cons.mpr ⟨cl_virtual (y := y_Mo_degree) (ci := 13) rfl rfl ⟨_, _, rfl⟩ (by decide +kernel) h_Mo_degree wm_3127 wm_9 wm_3124 wm_3126 wv_14_9 ⟨by decide, by decide, by decide +kernel⟩ (by decide), List.forall_mem_cons.mpr ⟨cl_virtual (y := y_Mo_edgeWay) (ci := 13) rfl rfl ⟨_, _, rfl⟩ (by decide +kernel) h_Mo_edgeWay wm_3131 wm_9 wm_3128 wm_3130 wv_14_10 ⟨by decide, by decide, by decide +kernel⟩ (by decide), List.forall_mem_nil _⟩⟩, List.forall_mem_nil _, List.forall_mem_nil _, GG_pl⟩ (by decide +kernel)
def n_Mo_from_an : List an_T := []
def t_Mo_from_ct : ct_L := [(1, 394, e_Mo_tail), (1, 398, e_Mo_head)]
set_option maxRecDepth 100000 in
theorem c_Mo_from {l : Launch} {D : va_G} {kA : Nat → ClassId} (h_Mo_head : ct_ok l D kA GG y_Mo_head z_Mo_head e_Mo_head) (h_Mo_tail : ct_ok l D kA GG y_Mo_tail z_Mo_tail e_Mo_tail) : ct_ok l D kA GG y_Mo_from z_Mo_from e_Mo_from := chk_all_ok (FT := [(210, 13, 95)]) (PT := []) (CT := t_Mo_from_ct) (KT := []) (NT := []) (AN := n_Mo_from_an) (OT := []) 0 200 (List.forall_mem_nil _) (by decide +kernel) ⟨List.forall_mem_cons.mpr ⟨gf_Mo_210, List.forall_mem_nil _⟩, List.forall_mem_nil _, List.forall_mem_cons.mpr ⟨cl_virtual (y := y_Mo_tail) (ci := 13) rfl rfl ⟨_, _, rfl⟩ (by decide +kernel) h_Mo_tail wm_3045 wm_9 wm_3042 wm_3044 wv_13_8 ⟨by decide, by decide, by decide +kernel⟩ (by decide), List.forall_mem_cons.mpr ⟨cl_virtual (y := y_Mo_head) (ci := 13) rfl rfl ⟨_, _, rfl⟩ (by decide +kernel) h_Mo_head wm_3049 wm_9 wm_3046 wm_3048 wv_13_9 ⟨by decide, by decide, by decide +kernel⟩ (by decide), List.forall_mem_nil _⟩⟩, List.forall_mem_nil _, List.forall_mem_nil _, GG_pl⟩ (by decide +kernel)
def n_Mo_halfOf_an : List an_T := []
def t_Mo_halfOf_ct : ct_L := [(1, 475, e_Mo_nodes), (1, 478, e_Mo_longOf)]
set_option maxRecDepth 100000 in
theorem c_Mo_halfOf {l : Launch} {D : va_G} {kA : Nat → ClassId} (h_Mo_longOf : ct_ok l D kA GG y_Mo_longOf z_Mo_longOf e_Mo_longOf) (h_Mo_nodes : ct_ok l D kA GG y_Mo_nodes z_Mo_nodes e_Mo_nodes) : ct_ok l D kA GG y_Mo_halfOf z_Mo_halfOf e_Mo_halfOf := chk_all_ok (FT := []) (PT := []) (CT := t_Mo_halfOf_ct) (KT := []) (NT := []) (AN := n_Mo_halfOf_an) (OT := []) 0 200 (List.forall_mem_nil _) (by decide +kernel) ⟨List.forall_mem_nil _, List.forall_mem_nil _, List.forall_mem_cons.mpr ⟨cl_virtual (y := y_Mo_nodes) (ci := 13) rfl rfl ⟨_, _, rfl⟩ (by decide +kernel) h_Mo_nodes wm_3025 wm_9 wm_3022 wm_3024 wv_13_3 ⟨by decide, by decide, by decide +kernel⟩ (by decide), List.forall_mem_cons.mpr ⟨cl_virtual (y := y_Mo_longOf) (ci := 13) rfl rfl ⟨_, _, rfl⟩ (by decide +kernel) h_Mo_longOf wm_3029 wm_9 wm_3026 wm_3028 wv_13_4 ⟨by decide, by decide, by decide +kernel⟩ (by decide), List.forall_mem_nil _⟩⟩, List.forall_mem_nil _, List.forall_mem_nil _, GG_pl⟩ (by decide +kernel)
def n_Mo_has_an : List an_T := []
def t_Mo_has_ct : ct_L := [(1, 394, e_Mo_tail), (1, 398, e_Mo_head)]
set_option maxRecDepth 100000 in
theorem c_Mo_has {l : Launch} {D : va_G} {kA : Nat → ClassId} (h_Mo_head : ct_ok l D kA GG y_Mo_head z_Mo_head e_Mo_head) (h_Mo_tail : ct_ok l D kA GG y_Mo_tail z_Mo_tail e_Mo_tail) : ct_ok l D kA GG y_Mo_has z_Mo_has e_Mo_has := chk_all_ok (FT := []) (PT := []) (CT := t_Mo_has_ct) (KT := []) (NT := []) (AN := n_Mo_has_an) (OT := []) 0 200 (List.forall_mem_nil _) (by decide +kernel) ⟨List.forall_mem_nil _, List.forall_mem_nil _, List.forall_mem_cons.mpr ⟨cl_virtual (y := y_Mo_tail) (ci := 13) rfl rfl ⟨_, _, rfl⟩ (by decide +kernel) h_Mo_tail wm_3045 wm_9 wm_3042 wm_3044 wv_13_8 ⟨by decide, by decide, by decide +kernel⟩ (by decide), List.forall_mem_cons.mpr ⟨cl_virtual (y := y_Mo_head) (ci := 13) rfl rfl ⟨_, _, rfl⟩ (by decide +kernel) h_Mo_head wm_3049 wm_9 wm_3046 wm_3048 wv_13_9 ⟨by decide, by decide, by decide +kernel⟩ (by decide), List.forall_mem_nil _⟩⟩, List.forall_mem_nil _, List.forall_mem_nil _, GG_pl⟩ (by decide +kernel)
def n_Mo_keep_an : List an_T := [(9, [(0, (2, 0, 0, [150])), (1, (0, 0, 3, [])), (2, (0, 0, 7, [])), (3, (0, 0, 24, []))], [], (0, 0), [(0, 0, 99991), (1, 3, 24), (0, 0, 100000), (0, 0, 0), (0, 0, 0)], [], [], [], 0, [], []), (59, [(0, (2, 0, 0, [150])), (1, (0, 0, 3, [])), (2, (0, 0, 7, [])), (3, (0, 0, 48, []))], [], (0, 0), [(0, 0, 99941), (1, 3, 48), (0, 0, 100000), (0, 0, 0), (0, 0, 0)], [], [], [], 0, [], []), (87, [(0, (2, 0, 0, [150])), (1, (0, 0, 3, [])), (2, (0, 0, 7, [])), (3, (0, 0, 47, [])), (4, (0, 0, 24, []))], [], (0, 0), [(0, 0, 99941), (1, 3, 48), (0, 0, 99913), (1, 4, 24), (0, 0, 100000)], [], [], [], 0, [], [])]
def t_Mo_keep_ct : ct_L := [(1, 401, e_Mo_edges), (1, 475, e_Mo_nodes)]
set_option maxRecDepth 100000 in
theorem c_Mo_keep {l : Launch} {D : va_G} {kA : Nat → ClassId} (h_Mo_edges : ct_ok l D kA GG y_Mo_edges z_Mo_edges e_Mo_edges) (h_Mo_nodes : ct_ok l D kA GG y_Mo_nodes z_Mo_nodes e_Mo_nodes) : ct_ok l D kA GG y_Mo_keep z_Mo_keep e_Mo_keep := chk_all_ok (FT := [(120, 13, 61), (123, 13, 62), (126, 13, 63), (129, 13, 64), (132, 13, 65), (135, 13, 66), (159, 13, 74), (162, 13, 75), (165, 13, 76), (168, 13, 77), (171, 13, 78)]) (PT := []) (CT := t_Mo_keep_ct) (KT := []) (NT := []) (AN := n_Mo_keep_an) (OT := []) 5 432 (List.forall_mem_nil _) (by decide +kernel) ⟨List.forall_mem_cons.mpr ⟨gf_Mo_120, List.forall_mem_cons.mpr ⟨gf_Mo_123, List.forall_mem_cons.mpr ⟨gf_Mo_126, List.forall_mem_cons.mpr ⟨gf_Mo_129, List.forall_mem_cons.mpr ⟨gf_Mo_132, List.forall_mem_cons.mpr ⟨gf_Mo_135, List.forall_mem_cons.mpr ⟨gf_Mo_159, List.forall_mem_cons.mpr ⟨gf_Mo_162, List.forall_mem_cons.mpr ⟨gf_Mo_165, List.forall_mem_cons.mpr ⟨gf_Mo_168, List.forall_mem_cons.mpr ⟨gf_Mo_171, List.forall_mem_nil _⟩⟩⟩⟩⟩⟩⟩⟩⟩⟩⟩, List.forall_mem_nil _, List.forall_mem_cons.mpr ⟨cl_virtual (y := y_Mo_edges) (ci := 13) rfl rfl ⟨_, _, rfl⟩ (by decide +kernel) h_Mo_edges wm_3037 wm_9 wm_3034 wm_3036 wv_13_6 ⟨by decide, by decide, by decide +kernel⟩ (by decide), List.forall_mem_cons.mpr ⟨cl_virtual (y := y_Mo_nodes) (ci := 13) rfl rfl ⟨_, _, rfl⟩ (by decide +kernel) h_Mo_nodes wm_3025 wm_9 wm_3022 wm_3024 wv_13_3 ⟨by decide, by decide, by decide +kernel⟩ (by decide), List.forall_mem_nil _⟩⟩, List.forall_mem_nil _, List.forall_mem_nil _, GG_pl⟩ (by decide +kernel)
def n_Mo_mayLeave_an : List an_T := [(9, [(0, (2, 0, 0, [150])), (1, (0, 1, 28, [])), (2, (0, 0, 24, [])), (3, (0, 0, 30, []))], [], (0, 0), [(0, 0, 99991), (1, 3, 30), (0, 0, 100000)], [], [], [], 0, [], [])]
def t_Mo_mayLeave_ct : ct_L := [(1, 646, e_Mo_edgeOf)]
set_option maxRecDepth 100000 in
theorem c_Mo_mayLeave {l : Launch} {D : va_G} {kA : Nat → ClassId} (h_Mo_edgeOf : ct_ok l D kA GG y_Mo_edgeOf z_Mo_edgeOf e_Mo_edgeOf) : ct_ok l D kA GG y_Mo_mayLeave z_Mo_mayLeave e_Mo_mayLeave := chk_all_ok (FT := [(278, 13, 122), (904, 13, 121)]) (PT := []) (CT := t_Mo_mayLeave_ct) (KT := []) (NT := []) (AN := n_Mo_mayLeave_an) (OT := []) 3 200 (List.forall_mem_nil _) (by decide +kernel) ⟨List.forall_mem_cons.mpr ⟨gf_Mo_278, List.forall_mem_cons.mpr ⟨gf_Mo_904, List.forall_mem_nil _⟩⟩, List.forall_mem_nil _, List.forall_mem_cons.mpr ⟨cl_virtual (y := y_Mo_edgeOf) (ci := 13) rfl rfl ⟨_, _, rfl⟩ (by decide +kernel) h_Mo_edgeOf wm_3195 wm_9 wm_3192 wm_3194 wv_15_7 ⟨by decide, by decide, by decide +kernel⟩ (by decide), List.forall_mem_nil _⟩, List.forall_mem_nil _, List.forall_mem_nil _, GG_pl⟩ (by decide +kernel)
def n_Mo_other_an : List an_T := []
def t_Mo_other_ct : ct_L := [(1, 394, e_Mo_tail), (1, 398, e_Mo_head)]
set_option maxRecDepth 100000 in
theorem c_Mo_other {l : Launch} {D : va_G} {kA : Nat → ClassId} (h_Mo_head : ct_ok l D kA GG y_Mo_head z_Mo_head e_Mo_head) (h_Mo_tail : ct_ok l D kA GG y_Mo_tail z_Mo_tail e_Mo_tail) : ct_ok l D kA GG y_Mo_other z_Mo_other e_Mo_other := chk_all_ok (FT := []) (PT := []) (CT := t_Mo_other_ct) (KT := []) (NT := []) (AN := n_Mo_other_an) (OT := []) 0 200 (List.forall_mem_nil _) (by decide +kernel) ⟨List.forall_mem_nil _, List.forall_mem_nil _, List.forall_mem_cons.mpr ⟨cl_virtual (y := y_Mo_tail) (ci := 13) rfl rfl ⟨_, _, rfl⟩ (by decide +kernel) h_Mo_tail wm_3045 wm_9 wm_3042 wm_3044 wv_13_8 ⟨by decide, by decide, by decide +kernel⟩ (by decide), List.forall_mem_cons.mpr ⟨cl_virtual (y := y_Mo_head) (ci := 13) rfl rfl ⟨_, _, rfl⟩ (by decide +kernel) h_Mo_head wm_3049 wm_9 wm_3046 wm_3048 wv_13_9 ⟨by decide, by decide, by decide +kernel⟩ (by decide), List.forall_mem_nil _⟩⟩, List.forall_mem_nil _, List.forall_mem_nil _, GG_pl⟩ (by decide +kernel)
def o_Mo_pieces_0 : or_T := (38, 4, [(0, (2, 0, 0, [150])), (3, (0, 1, 1, []))], [], [], [(0, 0, 12801, [])], [(20, [4, 0, 3], [1, 44, 80, 160, 2])], [], [])
theorem oo_Mo_pieces_0 {kA : Nat → ClassId} : or_ok kA GG o_Mo_pieces_0 := by
  intro A ta ws vs hD hth hl hk hds hf
  have hl : vs.length = 4 := hl
  have hk : ∀ q ∈ ([(0, (2, 0, 0, [150])), (3, (0, 1, 1, []))] : List (Nat × tv_T)), tv_ok ta q.2 (n_v vs q.1) := hk
  obtain ⟨t0, hk⟩ := List.forall_mem_cons.mp hk
  have t0 : tv_ok ta (2, 0, 0, [150]) (n_v vs 0) := t0
  have r0 : ta (v_ad (n_v vs 0)) = some 150 := tv_rg t0
  obtain ⟨t3, hk⟩ := List.forall_mem_cons.mp hk
  have t3 : tv_ok ta (0, 1, 1, []) (n_v vs 3) := t3
  have k3 : 1 ≤ v_iv (n_v vs 3) ∧ v_iv (n_v vs 3) ≤ 1 := tv_rng t3
  have ra : ta (w_ar ws (n_v vs 0) 44) = some 175 := tv_rg (th_fd hD hth r0 (g := GG_150) rfl (k := 44) (t := (2, 0, 0, [175])) rfl rfl)
  have bs := sum_bd (ws := ws) (a := w_ar ws (n_v vs 0) 44) (lo := (-1)) (hi := 79) (n := 80) (fun j hj => th_el hD hth ra (kd := 0) (n := 80) (m := 80) (rs := []) (L := []) rfl (by decide) (by omega))
  obtain ⟨x, ex, hx⟩ := iv_ex (ta := ta) (lo := 0) (hi := 12801) (z := 160 + 2 * w_sum ws (w_ar ws (n_v vs 0) 44) 80 + v_iv (n_v vs 3)) (by omega) (by omega) (by omega) (by omega)
  have ex2 : v_iv (Value.int x) = 160 + 2 * w_sum ws (w_ar ws (n_v vs 0) 44) 80 + v_iv (n_v vs 3) := ex
  have ex3 : 0 ≤ v_iv (Value.int x) ∧ v_iv (Value.int x) ≤ 12801 := tv_rng hx
  have e_0 : n_v (vs ++ [Value.int x]) 0 = n_v vs 0 := n_v_old (by rw [hl]; decide)
  have e_3 : n_v (vs ++ [Value.int x]) 3 = n_v vs 3 := n_v_old (by rw [hl]; decide)
  have e_4 : n_v (vs ++ [Value.int x]) 4 = Value.int x := n_v_new hl
  have nf0 : fc_1 (20, [4, 0, 3], [1, 44, 80, 160, 2]) ws (vs ++ [Value.int x]) := by
    refine ⟨fun n hn => ?_, ?_⟩
    · have hn : n ∈ [4, 0, 3] := hn
      rw [List.length_append, hl]
      simp only [List.mem_cons, List.not_mem_nil, or_false] at hn
      show n < 4 + 1; omega
    · show v_iv (n_v (vs ++ [Value.int x]) 4) = 160 + 2 * w_sum ws (w_ar ws (n_v (vs ++ [Value.int x]) 0) 44) 80 + v_iv (n_v (vs ++ [Value.int x]) 3)
      rw [e_0]
      rw [e_3]
      rw [e_4]
      omega
  exact ⟨(fun _ h => (by cases h)), [Value.int x], ag_one hx, List.forall_mem_cons.mpr ⟨⟨show (20 : Nat) < 100 from by decide, nf0⟩, (fun _ h => (by cases h))⟩, (fun _ h => (by cases h))⟩
def o_Mo_pieces_1 : or_T := (46, 5, [(0, (2, 0, 0, [150])), (1, (0, 1, 1, [])), (2, (0, 0, 12801, [])), (3, (0, 0, 0, []))], [(20, [2, 0, 1], [1, 44, 80, 160, 2])], [], [(0, 0, 12801, [])], [(20, [5, 0, 3], [2, 44, 80, 160, 2])], [(5, 2, 0, 0)], [])
theorem oo_Mo_pieces_1 {kA : Nat → ClassId} : or_ok kA GG o_Mo_pieces_1 := by
  intro A ta ws vs hD hth hl hk hds hf
  have hl : vs.length = 5 := hl
  have hk : ∀ q ∈ ([(0, (2, 0, 0, [150])), (1, (0, 1, 1, [])), (2, (0, 0, 12801, [])), (3, (0, 0, 0, []))] : List (Nat × tv_T)), tv_ok ta q.2 (n_v vs q.1) := hk
  obtain ⟨t0, hk⟩ := List.forall_mem_cons.mp hk
  have t0 : tv_ok ta (2, 0, 0, [150]) (n_v vs 0) := t0
  have r0 : ta (v_ad (n_v vs 0)) = some 150 := tv_rg t0
  obtain ⟨t1, hk⟩ := List.forall_mem_cons.mp hk
  have t1 : tv_ok ta (0, 1, 1, []) (n_v vs 1) := t1
  have k1 : 1 ≤ v_iv (n_v vs 1) ∧ v_iv (n_v vs 1) ≤ 1 := tv_rng t1
  obtain ⟨t2, hk⟩ := List.forall_mem_cons.mp hk
  have t2 : tv_ok ta (0, 0, 12801, []) (n_v vs 2) := t2
  have k2 : 0 ≤ v_iv (n_v vs 2) ∧ v_iv (n_v vs 2) ≤ 12801 := tv_rng t2
  obtain ⟨t3, hk⟩ := List.forall_mem_cons.mp hk
  have t3 : tv_ok ta (0, 0, 0, []) (n_v vs 3) := t3
  have k3 : 0 ≤ v_iv (n_v vs 3) ∧ v_iv (n_v vs 3) ≤ 0 := tv_rng t3
  have hf : fc_ok [(20, [2, 0, 1], [1, 44, 80, 160, 2])] ta ws vs := hf
  obtain ⟨f0, hf⟩ := fc_un (show (20 : Nat) < 100 from by decide) hf
  have f0 : v_iv (n_v vs 2) = 160 + 2 * w_sum ws (w_ar ws (n_v vs 0) 44) 80 + v_iv (n_v vs 1) := f0
  have key : 160 + 2 * w_sum ws (w_ar ws (n_v vs 0) 44) 80 + v_iv (n_v vs 3) + 1 ≤ v_iv (n_v vs 2) := by omega
  obtain ⟨x, ex, hx⟩ := iv_ex (ta := ta) (lo := 0) (hi := 12801) (z := v_iv (n_v vs 2)) (by omega) (by omega) (by omega) (by omega)
  have ex2 : v_iv (Value.int x) = v_iv (n_v vs 2) := ex
  have ex3 : 0 ≤ v_iv (Value.int x) ∧ v_iv (Value.int x) ≤ 12801 := tv_rng hx
  have e_0 : n_v (vs ++ [Value.int x]) 0 = n_v vs 0 := n_v_old (by rw [hl]; decide)
  have e_3 : n_v (vs ++ [Value.int x]) 3 = n_v vs 3 := n_v_old (by rw [hl]; decide)
  have e_5 : n_v (vs ++ [Value.int x]) 5 = Value.int x := n_v_new hl
  have nf0 : fc_1 (20, [5, 0, 3], [2, 44, 80, 160, 2]) ws (vs ++ [Value.int x]) := by
    refine ⟨fun n hn => ?_, ?_⟩
    · have hn : n ∈ [5, 0, 3] := hn
      rw [List.length_append, hl]
      simp only [List.mem_cons, List.not_mem_nil, or_false] at hn
      show n < 5 + 1; omega
    · show 160 + 2 * w_sum ws (w_ar ws (n_v (vs ++ [Value.int x]) 0) 44) 80 + v_iv (n_v (vs ++ [Value.int x]) 3) + 1 ≤ v_iv (n_v (vs ++ [Value.int x]) 5)
      rw [e_0]
      rw [e_3]
      rw [e_5]
      omega
  obtain ⟨x0, e0, _, _⟩ := tv_int t2 rfl
  have e1 : v_iv (n_v vs 2) = x0.toInt := by rw [e0]; rfl
  have ho : sy_ofs (vs ++ [Value.int x]) (5, 2, 0, 0) := by
    refine ⟨x, x0, by rw [List.getElem?_append_right (by rw [hl]; decide), hl]; rfl, ?_, ?_, ?_⟩
    · rw [List.getElem?_append_left (by rw [hl]; decide)]; exact n_v_some (by rw [hl]; decide) e0
    · show x0.toInt + 0 ≤ x.toInt; omega
    · show x.toInt ≤ x0.toInt + 0; omega
  exact ⟨(fun _ h => (by cases h)), [Value.int x], ag_one hx, List.forall_mem_cons.mpr ⟨⟨show (20 : Nat) < 100 from by decide, nf0⟩, (fun _ h => (by cases h))⟩, List.forall_mem_cons.mpr ⟨ho, (fun _ h => (by cases h))⟩⟩
def o_Mo_pieces_2 : or_T := (38, 5, [(0, (2, 0, 0, [150])), (1, (0, 0, 1, [])), (3, (0, 0, 12801, []))], [(20, [3, 0, 1], [2, 44, 80, 160, 2])], [], [(0, 0, 12801, [])], [(20, [5, 0, 1], [1, 44, 80, 160, 2])], [(5, 3, -1000000000000, -1)], [])
theorem oo_Mo_pieces_2 {kA : Nat → ClassId} : or_ok kA GG o_Mo_pieces_2 := by
  intro A ta ws vs hD hth hl hk hds hf
  have hl : vs.length = 5 := hl
  have hk : ∀ q ∈ ([(0, (2, 0, 0, [150])), (1, (0, 0, 1, [])), (3, (0, 0, 12801, []))] : List (Nat × tv_T)), tv_ok ta q.2 (n_v vs q.1) := hk
  obtain ⟨t0, hk⟩ := List.forall_mem_cons.mp hk
  have t0 : tv_ok ta (2, 0, 0, [150]) (n_v vs 0) := t0
  have r0 : ta (v_ad (n_v vs 0)) = some 150 := tv_rg t0
  obtain ⟨t1, hk⟩ := List.forall_mem_cons.mp hk
  have t1 : tv_ok ta (0, 0, 1, []) (n_v vs 1) := t1
  have k1 : 0 ≤ v_iv (n_v vs 1) ∧ v_iv (n_v vs 1) ≤ 1 := tv_rng t1
  obtain ⟨t3, hk⟩ := List.forall_mem_cons.mp hk
  have t3 : tv_ok ta (0, 0, 12801, []) (n_v vs 3) := t3
  have k3 : 0 ≤ v_iv (n_v vs 3) ∧ v_iv (n_v vs 3) ≤ 12801 := tv_rng t3
  have hf : fc_ok [(20, [3, 0, 1], [2, 44, 80, 160, 2])] ta ws vs := hf
  obtain ⟨f0, hf⟩ := fc_un (show (20 : Nat) < 100 from by decide) hf
  have f0 : 160 + 2 * w_sum ws (w_ar ws (n_v vs 0) 44) 80 + v_iv (n_v vs 1) + 1 ≤ v_iv (n_v vs 3) := f0
  have ra : ta (w_ar ws (n_v vs 0) 44) = some 175 := tv_rg (th_fd hD hth r0 (g := GG_150) rfl (k := 44) (t := (2, 0, 0, [175])) rfl rfl)
  have bs := sum_bd (ws := ws) (a := w_ar ws (n_v vs 0) 44) (lo := (-1)) (hi := 79) (n := 80) (fun j hj => th_el hD hth ra (kd := 0) (n := 80) (m := 80) (rs := []) (L := []) rfl (by decide) (by omega))
  obtain ⟨x, ex, hx⟩ := iv_ex (ta := ta) (lo := 0) (hi := 12801) (z := 160 + 2 * w_sum ws (w_ar ws (n_v vs 0) 44) 80 + v_iv (n_v vs 1)) (by omega) (by omega) (by omega) (by omega)
  have ex2 : v_iv (Value.int x) = 160 + 2 * w_sum ws (w_ar ws (n_v vs 0) 44) 80 + v_iv (n_v vs 1) := ex
  have ex3 : 0 ≤ v_iv (Value.int x) ∧ v_iv (Value.int x) ≤ 12801 := tv_rng hx
  have e_0 : n_v (vs ++ [Value.int x]) 0 = n_v vs 0 := n_v_old (by rw [hl]; decide)
  have e_1 : n_v (vs ++ [Value.int x]) 1 = n_v vs 1 := n_v_old (by rw [hl]; decide)
  have e_5 : n_v (vs ++ [Value.int x]) 5 = Value.int x := n_v_new hl
  have nf0 : fc_1 (20, [5, 0, 1], [1, 44, 80, 160, 2]) ws (vs ++ [Value.int x]) := by
    refine ⟨fun n hn => ?_, ?_⟩
    · have hn : n ∈ [5, 0, 1] := hn
      rw [List.length_append, hl]
      simp only [List.mem_cons, List.not_mem_nil, or_false] at hn
      show n < 5 + 1; omega
    · show v_iv (n_v (vs ++ [Value.int x]) 5) = 160 + 2 * w_sum ws (w_ar ws (n_v (vs ++ [Value.int x]) 0) 44) 80 + v_iv (n_v (vs ++ [Value.int x]) 1)
      rw [e_0]
      rw [e_1]
      rw [e_5]
      omega
  obtain ⟨x0, e0, _, _⟩ := tv_int t3 rfl
  have e1 : v_iv (n_v vs 3) = x0.toInt := by rw [e0]; rfl
  have ho : sy_ofs (vs ++ [Value.int x]) (5, 3, -1000000000000, -1) := by
    refine ⟨x, x0, by rw [List.getElem?_append_right (by rw [hl]; decide), hl]; rfl, ?_, ?_, ?_⟩
    · rw [List.getElem?_append_left (by rw [hl]; decide)]; exact n_v_some (by rw [hl]; decide) e0
    · show x0.toInt + (-1000000000000) ≤ x.toInt; omega
    · show x.toInt ≤ x0.toInt + (-1); omega
  exact ⟨(fun _ h => (by cases h)), [Value.int x], ag_one hx, List.forall_mem_cons.mpr ⟨⟨show (20 : Nat) < 100 from by decide, nf0⟩, (fun _ h => (by cases h))⟩, List.forall_mem_cons.mpr ⟨ho, (fun _ h => (by cases h))⟩⟩
def o_Mo_pieces_3 : or_T := (56, 6, [(0, (2, 0, 0, [150])), (1, (0, 0, 1, [])), (3, (0, 0, 12801, []))], [(20, [3, 0, 1], [2, 44, 80, 160, 2])], [], [(0, 0, 12801, [])], [(20, [6, 0, 1], [2, 44, 80, 160, 2])], [(6, 3, 0, 0)], [])
theorem oo_Mo_pieces_3 {kA : Nat → ClassId} : or_ok kA GG o_Mo_pieces_3 := by
  intro A ta ws vs hD hth hl hk hds hf
  have hl : vs.length = 6 := hl
  have hk : ∀ q ∈ ([(0, (2, 0, 0, [150])), (1, (0, 0, 1, [])), (3, (0, 0, 12801, []))] : List (Nat × tv_T)), tv_ok ta q.2 (n_v vs q.1) := hk
  obtain ⟨t0, hk⟩ := List.forall_mem_cons.mp hk
  have t0 : tv_ok ta (2, 0, 0, [150]) (n_v vs 0) := t0
  have r0 : ta (v_ad (n_v vs 0)) = some 150 := tv_rg t0
  obtain ⟨t1, hk⟩ := List.forall_mem_cons.mp hk
  have t1 : tv_ok ta (0, 0, 1, []) (n_v vs 1) := t1
  have k1 : 0 ≤ v_iv (n_v vs 1) ∧ v_iv (n_v vs 1) ≤ 1 := tv_rng t1
  obtain ⟨t3, hk⟩ := List.forall_mem_cons.mp hk
  have t3 : tv_ok ta (0, 0, 12801, []) (n_v vs 3) := t3
  have k3 : 0 ≤ v_iv (n_v vs 3) ∧ v_iv (n_v vs 3) ≤ 12801 := tv_rng t3
  have hf : fc_ok [(20, [3, 0, 1], [2, 44, 80, 160, 2])] ta ws vs := hf
  obtain ⟨f0, hf⟩ := fc_un (show (20 : Nat) < 100 from by decide) hf
  have f0 : 160 + 2 * w_sum ws (w_ar ws (n_v vs 0) 44) 80 + v_iv (n_v vs 1) + 1 ≤ v_iv (n_v vs 3) := f0
  have key : 160 + 2 * w_sum ws (w_ar ws (n_v vs 0) 44) 80 + v_iv (n_v vs 1) + 1 ≤ v_iv (n_v vs 3) := by omega
  obtain ⟨x, ex, hx⟩ := iv_ex (ta := ta) (lo := 0) (hi := 12801) (z := v_iv (n_v vs 3)) (by omega) (by omega) (by omega) (by omega)
  have ex2 : v_iv (Value.int x) = v_iv (n_v vs 3) := ex
  have ex3 : 0 ≤ v_iv (Value.int x) ∧ v_iv (Value.int x) ≤ 12801 := tv_rng hx
  have e_0 : n_v (vs ++ [Value.int x]) 0 = n_v vs 0 := n_v_old (by rw [hl]; decide)
  have e_1 : n_v (vs ++ [Value.int x]) 1 = n_v vs 1 := n_v_old (by rw [hl]; decide)
  have e_6 : n_v (vs ++ [Value.int x]) 6 = Value.int x := n_v_new hl
  have nf0 : fc_1 (20, [6, 0, 1], [2, 44, 80, 160, 2]) ws (vs ++ [Value.int x]) := by
    refine ⟨fun n hn => ?_, ?_⟩
    · have hn : n ∈ [6, 0, 1] := hn
      rw [List.length_append, hl]
      simp only [List.mem_cons, List.not_mem_nil, or_false] at hn
      show n < 6 + 1; omega
    · show 160 + 2 * w_sum ws (w_ar ws (n_v (vs ++ [Value.int x]) 0) 44) 80 + v_iv (n_v (vs ++ [Value.int x]) 1) + 1 ≤ v_iv (n_v (vs ++ [Value.int x]) 6)
      rw [e_0]
      rw [e_1]
      rw [e_6]
      omega
  obtain ⟨x0, e0, _, _⟩ := tv_int t3 rfl
  have e1 : v_iv (n_v vs 3) = x0.toInt := by rw [e0]; rfl
  have ho : sy_ofs (vs ++ [Value.int x]) (6, 3, 0, 0) := by
    refine ⟨x, x0, by rw [List.getElem?_append_right (by rw [hl]; decide), hl]; rfl, ?_, ?_, ?_⟩
    · rw [List.getElem?_append_left (by rw [hl]; decide)]; exact n_v_some (by rw [hl]; decide) e0
    · show x0.toInt + 0 ≤ x.toInt; omega
    · show x.toInt ≤ x0.toInt + 0; omega
  exact ⟨(fun _ h => (by cases h)), [Value.int x], ag_one hx, List.forall_mem_cons.mpr ⟨⟨show (20 : Nat) < 100 from by decide, nf0⟩, (fun _ h => (by cases h))⟩, List.forall_mem_cons.mpr ⟨ho, (fun _ h => (by cases h))⟩⟩
def o_Mo_pieces_4 : or_T := (46, 6, [(0, (2, 0, 0, [150])), (1, (0, 0, 1, [])), (4, (0, 0, 12801, []))], [(20, [4, 0, 1], [2, 44, 80, 160, 2])], [], [(0, 0, 12801, [])], [(20, [6, 0, 1], [2, 44, 80, 160, 2])], [(6, 4, 0, 0)], [])
theorem oo_Mo_pieces_4 {kA : Nat → ClassId} : or_ok kA GG o_Mo_pieces_4 := by
  intro A ta ws vs hD hth hl hk hds hf
  have hl : vs.length = 6 := hl
  have hk : ∀ q ∈ ([(0, (2, 0, 0, [150])), (1, (0, 0, 1, [])), (4, (0, 0, 12801, []))] : List (Nat × tv_T)), tv_ok ta q.2 (n_v vs q.1) := hk
  obtain ⟨t0, hk⟩ := List.forall_mem_cons.mp hk
  have t0 : tv_ok ta (2, 0, 0, [150]) (n_v vs 0) := t0
  have r0 : ta (v_ad (n_v vs 0)) = some 150 := tv_rg t0
  obtain ⟨t1, hk⟩ := List.forall_mem_cons.mp hk
  have t1 : tv_ok ta (0, 0, 1, []) (n_v vs 1) := t1
  have k1 : 0 ≤ v_iv (n_v vs 1) ∧ v_iv (n_v vs 1) ≤ 1 := tv_rng t1
  obtain ⟨t4, hk⟩ := List.forall_mem_cons.mp hk
  have t4 : tv_ok ta (0, 0, 12801, []) (n_v vs 4) := t4
  have k4 : 0 ≤ v_iv (n_v vs 4) ∧ v_iv (n_v vs 4) ≤ 12801 := tv_rng t4
  have hf : fc_ok [(20, [4, 0, 1], [2, 44, 80, 160, 2])] ta ws vs := hf
  obtain ⟨f0, hf⟩ := fc_un (show (20 : Nat) < 100 from by decide) hf
  have f0 : 160 + 2 * w_sum ws (w_ar ws (n_v vs 0) 44) 80 + v_iv (n_v vs 1) + 1 ≤ v_iv (n_v vs 4) := f0
  have key : 160 + 2 * w_sum ws (w_ar ws (n_v vs 0) 44) 80 + v_iv (n_v vs 1) + 1 ≤ v_iv (n_v vs 4) := by omega
  obtain ⟨x, ex, hx⟩ := iv_ex (ta := ta) (lo := 0) (hi := 12801) (z := v_iv (n_v vs 4)) (by omega) (by omega) (by omega) (by omega)
  have ex2 : v_iv (Value.int x) = v_iv (n_v vs 4) := ex
  have ex3 : 0 ≤ v_iv (Value.int x) ∧ v_iv (Value.int x) ≤ 12801 := tv_rng hx
  have e_0 : n_v (vs ++ [Value.int x]) 0 = n_v vs 0 := n_v_old (by rw [hl]; decide)
  have e_1 : n_v (vs ++ [Value.int x]) 1 = n_v vs 1 := n_v_old (by rw [hl]; decide)
  have e_6 : n_v (vs ++ [Value.int x]) 6 = Value.int x := n_v_new hl
  have nf0 : fc_1 (20, [6, 0, 1], [2, 44, 80, 160, 2]) ws (vs ++ [Value.int x]) := by
    refine ⟨fun n hn => ?_, ?_⟩
    · have hn : n ∈ [6, 0, 1] := hn
      rw [List.length_append, hl]
      simp only [List.mem_cons, List.not_mem_nil, or_false] at hn
      show n < 6 + 1; omega
    · show 160 + 2 * w_sum ws (w_ar ws (n_v (vs ++ [Value.int x]) 0) 44) 80 + v_iv (n_v (vs ++ [Value.int x]) 1) + 1 ≤ v_iv (n_v (vs ++ [Value.int x]) 6)
      rw [e_0]
      rw [e_1]
      rw [e_6]
      omega
  obtain ⟨x0, e0, _, _⟩ := tv_int t4 rfl
  have e1 : v_iv (n_v vs 4) = x0.toInt := by rw [e0]; rfl
  have ho : sy_ofs (vs ++ [Value.int x]) (6, 4, 0, 0) := by
    refine ⟨x, x0, by rw [List.getElem?_append_right (by rw [hl]; decide), hl]; rfl, ?_, ?_, ?_⟩
    · rw [List.getElem?_append_left (by rw [hl]; decide)]; exact n_v_some (by rw [hl]; decide) e0
    · show x0.toInt + 0 ≤ x.toInt; omega
    · show x.toInt ≤ x0.toInt + 0; omega
  exact ⟨(fun _ h => (by cases h)), [Value.int x], ag_one hx, List.forall_mem_cons.mpr ⟨⟨show (20 : Nat) < 100 from by decide, nf0⟩, (fun _ h => (by cases h))⟩, List.forall_mem_cons.mpr ⟨ho, (fun _ h => (by cases h))⟩⟩
def o_Mo_pieces_5 : or_T := (56, 16, [(0, (2, 0, 0, [150])), (1, (0, 0, 1, [])), (2, (0, 1, 79, [])), (3, (0, 0, 78, [])), (4, (0, 0, 12801, [])), (8, (2, 0, 0, [175])), (9, (0, -1, 79, [])), (10, (0, -1, 79, [])), (12, (0, -1, 79, [])), (13, (0, -1, 79, [])), (14, (0, 1, 1, []))], [(100, [8, 3, 13], []), (9, [8, 0], [44]), (100, [8, 2, 13], []), (9, [8, 0], [44]), (7, [13, 12], [5]), (7, [13, 13], [5]), (10, [13, 8, 3], []), (9, [8, 0], [44]), (10, [12, 8, 2], []), (9, [8, 0], [44]), (7, [9, 10], [1]), (10, [10, 8, 3], []), (9, [8, 0], [44]), (10, [9, 8, 2], []), (9, [8, 0], [44]), (20, [4, 0, 1], [2, 44, 80, 160, 2])], [], [], [(20, [4, 0, 14], [2, 44, 80, 160, 2])], [], [])
theorem oo_Mo_pieces_5 {kA : Nat → ClassId} : or_ok kA GG o_Mo_pieces_5 := by
  intro A ta ws vs hD hth hl hk hds hf
  have hl : vs.length = 16 := hl
  have hk : ∀ q ∈ ([(0, (2, 0, 0, [150])), (1, (0, 0, 1, [])), (2, (0, 1, 79, [])), (3, (0, 0, 78, [])), (4, (0, 0, 12801, [])), (8, (2, 0, 0, [175])), (9, (0, -1, 79, [])), (10, (0, -1, 79, [])), (12, (0, -1, 79, [])), (13, (0, -1, 79, [])), (14, (0, 1, 1, []))] : List (Nat × tv_T)), tv_ok ta q.2 (n_v vs q.1) := hk
  obtain ⟨t0, hk⟩ := List.forall_mem_cons.mp hk
  have t0 : tv_ok ta (2, 0, 0, [150]) (n_v vs 0) := t0
  have r0 : ta (v_ad (n_v vs 0)) = some 150 := tv_rg t0
  obtain ⟨t1, hk⟩ := List.forall_mem_cons.mp hk
  have t1 : tv_ok ta (0, 0, 1, []) (n_v vs 1) := t1
  have k1 : 0 ≤ v_iv (n_v vs 1) ∧ v_iv (n_v vs 1) ≤ 1 := tv_rng t1
  obtain ⟨t2, hk⟩ := List.forall_mem_cons.mp hk
  have t2 : tv_ok ta (0, 1, 79, []) (n_v vs 2) := t2
  have k2 : 1 ≤ v_iv (n_v vs 2) ∧ v_iv (n_v vs 2) ≤ 79 := tv_rng t2
  obtain ⟨t3, hk⟩ := List.forall_mem_cons.mp hk
  have t3 : tv_ok ta (0, 0, 78, []) (n_v vs 3) := t3
  have k3 : 0 ≤ v_iv (n_v vs 3) ∧ v_iv (n_v vs 3) ≤ 78 := tv_rng t3
  obtain ⟨t4, hk⟩ := List.forall_mem_cons.mp hk
  have t4 : tv_ok ta (0, 0, 12801, []) (n_v vs 4) := t4
  have k4 : 0 ≤ v_iv (n_v vs 4) ∧ v_iv (n_v vs 4) ≤ 12801 := tv_rng t4
  obtain ⟨t8, hk⟩ := List.forall_mem_cons.mp hk
  have t8 : tv_ok ta (2, 0, 0, [175]) (n_v vs 8) := t8
  have r8 : ta (v_ad (n_v vs 8)) = some 175 := tv_rg t8
  obtain ⟨t9, hk⟩ := List.forall_mem_cons.mp hk
  have t9 : tv_ok ta (0, -1, 79, []) (n_v vs 9) := t9
  have k9 : (-1) ≤ v_iv (n_v vs 9) ∧ v_iv (n_v vs 9) ≤ 79 := tv_rng t9
  obtain ⟨t10, hk⟩ := List.forall_mem_cons.mp hk
  have t10 : tv_ok ta (0, -1, 79, []) (n_v vs 10) := t10
  have k10 : (-1) ≤ v_iv (n_v vs 10) ∧ v_iv (n_v vs 10) ≤ 79 := tv_rng t10
  obtain ⟨t12, hk⟩ := List.forall_mem_cons.mp hk
  have t12 : tv_ok ta (0, -1, 79, []) (n_v vs 12) := t12
  have k12 : (-1) ≤ v_iv (n_v vs 12) ∧ v_iv (n_v vs 12) ≤ 79 := tv_rng t12
  obtain ⟨t13, hk⟩ := List.forall_mem_cons.mp hk
  have t13 : tv_ok ta (0, -1, 79, []) (n_v vs 13) := t13
  have k13 : (-1) ≤ v_iv (n_v vs 13) ∧ v_iv (n_v vs 13) ≤ 79 := tv_rng t13
  obtain ⟨t14, hk⟩ := List.forall_mem_cons.mp hk
  have t14 : tv_ok ta (0, 1, 1, []) (n_v vs 14) := t14
  have k14 : 1 ≤ v_iv (n_v vs 14) ∧ v_iv (n_v vs 14) ≤ 1 := tv_rng t14
  have hf : fc_ok [(100, [8, 3, 13], []), (9, [8, 0], [44]), (100, [8, 2, 13], []), (9, [8, 0], [44]), (7, [13, 12], [5]), (7, [13, 13], [5]), (10, [13, 8, 3], []), (9, [8, 0], [44]), (10, [12, 8, 2], []), (9, [8, 0], [44]), (7, [9, 10], [1]), (10, [10, 8, 3], []), (9, [8, 0], [44]), (10, [9, 8, 2], []), (9, [8, 0], [44]), (20, [4, 0, 1], [2, 44, 80, 160, 2])] ta ws vs := hf
  obtain ⟨ta1, w1, le1, ⟨_, s1⟩, hf⟩ := fc_us (show ¬ (100 : Nat) < 100 from by decide) hf
  have s1 : (∀ b j, w_el ws b j = if b = v_ad (n_v vs 8) ∧ j = (v_iv (n_v vs 3)).toNat then v_iv (n_v vs 13) else w_el w1 b j) ∧ ∀ b k, w_fd ws b k = w_fd w1 b k := s1
  obtain ⟨f1, hf⟩ := fc_un (show (9 : Nat) < 100 from by decide) hf
  have f1 : n_v vs 8 = w_fd w1 (v_ad (n_v vs 0)) 44 := f1
  obtain ⟨ta2, w2, le2, ⟨_, s2⟩, hf⟩ := fc_us (show ¬ (100 : Nat) < 100 from by decide) hf
  have s2 : (∀ b j, w_el w1 b j = if b = v_ad (n_v vs 8) ∧ j = (v_iv (n_v vs 2)).toNat then v_iv (n_v vs 13) else w_el w2 b j) ∧ ∀ b k, w_fd w1 b k = w_fd w2 b k := s2
  obtain ⟨f3, hf⟩ := fc_un (show (9 : Nat) < 100 from by decide) hf
  have f3 : n_v vs 8 = w_fd w2 (v_ad (n_v vs 0)) 44 := f3
  obtain ⟨f4, hf⟩ := fc_un (show (7 : Nat) < 100 from by decide) hf
  have f4 : v_iv (n_v vs 13) ≤ v_iv (n_v vs 12) := f4
  obtain ⟨f5, hf⟩ := fc_un (show (7 : Nat) < 100 from by decide) hf
  have f5 : v_iv (n_v vs 13) ≤ v_iv (n_v vs 13) := f5
  obtain ⟨f6, hf⟩ := fc_un (show (10 : Nat) < 100 from by decide) hf
  have f6 : v_iv (n_v vs 13) = w_el w2 (v_ad (n_v vs 8)) (v_iv (n_v vs 3)).toNat := f6
  obtain ⟨f7, hf⟩ := fc_un (show (9 : Nat) < 100 from by decide) hf
  have f7 : n_v vs 8 = w_fd w2 (v_ad (n_v vs 0)) 44 := f7
  obtain ⟨f8, hf⟩ := fc_un (show (10 : Nat) < 100 from by decide) hf
  have f8 : v_iv (n_v vs 12) = w_el w2 (v_ad (n_v vs 8)) (v_iv (n_v vs 2)).toNat := f8
  obtain ⟨f9, hf⟩ := fc_un (show (9 : Nat) < 100 from by decide) hf
  have f9 : n_v vs 8 = w_fd w2 (v_ad (n_v vs 0)) 44 := f9
  obtain ⟨f10, hf⟩ := fc_un (show (7 : Nat) < 100 from by decide) hf
  have f10 : v_iv (n_v vs 9) ≠ v_iv (n_v vs 10) := f10
  obtain ⟨f11, hf⟩ := fc_un (show (10 : Nat) < 100 from by decide) hf
  have f11 : v_iv (n_v vs 10) = w_el w2 (v_ad (n_v vs 8)) (v_iv (n_v vs 3)).toNat := f11
  obtain ⟨f12, hf⟩ := fc_un (show (9 : Nat) < 100 from by decide) hf
  have f12 : n_v vs 8 = w_fd w2 (v_ad (n_v vs 0)) 44 := f12
  obtain ⟨f13, hf⟩ := fc_un (show (10 : Nat) < 100 from by decide) hf
  have f13 : v_iv (n_v vs 9) = w_el w2 (v_ad (n_v vs 8)) (v_iv (n_v vs 2)).toNat := f13
  obtain ⟨f14, hf⟩ := fc_un (show (9 : Nat) < 100 from by decide) hf
  have f14 : n_v vs 8 = w_fd w2 (v_ad (n_v vs 0)) 44 := f14
  obtain ⟨f15, hf⟩ := fc_un (show (20 : Nat) < 100 from by decide) hf
  have f15 : 160 + 2 * w_sum w2 (w_ar w2 (n_v vs 0) 44) 80 + v_iv (n_v vs 1) + 1 ≤ v_iv (n_v vs 4) := f15
  have a8 : v_ad (n_v vs 8) = w_ar ws (n_v vs 0) 44 := by rw [f1]; show _ = v_ad (w_fd ws _ _); rw [s1.2]
  rw [a8] at s1
  rw [a8] at s2
  rw [a8] at f6
  rw [a8] at f8
  rw [a8] at f11
  rw [a8] at f13
  have c44 := r8; rw [a8] at c44
  have e1 : v_iv (n_v vs 12) = v_iv (n_v vs 9) := by rw [f8, f13]
  have e2 : v_iv (n_v vs 13) = v_iv (n_v vs 10) := by rw [f6, f11]
  have hne : (v_iv (n_v vs 2)).toNat ≠ (v_iv (n_v vs 3)).toNat := fun e => f10 (by rw [f13, f11, e])
  have g1 := sum_set s1.1 (n := 80) (by omega)
  have g2 := sum_set s2.1 (n := 80) (by omega)
  rw [el_ne s2.1 (Or.inr (fun e => hne e.symm)), ← f11] at g1
  rw [← f13] at g2
  have t2 : w_ar w2 (n_v vs 0) 44 = w_ar ws (n_v vs 0) 44 := by show v_ad (w_fd w2 _ _) = v_ad (w_fd ws _ _); rw [s1.2, s2.2]
  rw [t2] at f15
  have key : 160 + 2 * w_sum ws (w_ar ws (n_v vs 0) 44) 80 + v_iv (n_v vs 14) + 1 ≤ v_iv (n_v vs 4) := by omega
  have nf0 : fc_1 (20, [4, 0, 14], [2, 44, 80, 160, 2]) ws (vs) := by
    refine ⟨fun n hn => ?_, ?_⟩
    · have hn : n ∈ [4, 0, 14] := hn
      rw [hl]
      simp only [List.mem_cons, List.not_mem_nil, or_false] at hn
      show n < 16; omega
    · show 160 + 2 * w_sum ws (w_ar ws (n_v vs 0) 44) 80 + v_iv (n_v vs 14) + 1 ≤ v_iv (n_v vs 4)
      exact key
  refine ⟨(fun _ h => (by cases h)), [], trivial, ?_, (fun _ h => (by cases h))⟩
  rw [List.append_nil]
  exact List.forall_mem_cons.mpr ⟨⟨show (20 : Nat) < 100 from by decide, nf0⟩, (fun _ h => (by cases h))⟩
def o_Mo_pieces_6 : or_T := (56, 16, [(0, (2, 0, 0, [150])), (1, (0, 0, 1, [])), (2, (0, 1, 79, [])), (3, (0, 0, 78, [])), (4, (0, 0, 12801, [])), (8, (2, 0, 0, [175])), (9, (0, -1, 79, [])), (10, (0, -1, 79, [])), (12, (0, -1, 78, [])), (13, (0, 0, 79, [])), (14, (0, 1, 1, []))], [(100, [8, 3, 12], []), (9, [8, 0], [44]), (100, [8, 2, 12], []), (9, [8, 0], [44]), (7, [12, 12], [5]), (7, [12, 13], [5]), (10, [13, 8, 3], []), (9, [8, 0], [44]), (10, [12, 8, 2], []), (9, [8, 0], [44]), (7, [9, 10], [1]), (10, [10, 8, 3], []), (9, [8, 0], [44]), (10, [9, 8, 2], []), (9, [8, 0], [44]), (20, [4, 0, 1], [2, 44, 80, 160, 2])], [], [], [(20, [4, 0, 14], [2, 44, 80, 160, 2])], [], [])
theorem oo_Mo_pieces_6 {kA : Nat → ClassId} : or_ok kA GG o_Mo_pieces_6 := by
  intro A ta ws vs hD hth hl hk hds hf
  have hl : vs.length = 16 := hl
  have hk : ∀ q ∈ ([(0, (2, 0, 0, [150])), (1, (0, 0, 1, [])), (2, (0, 1, 79, [])), (3, (0, 0, 78, [])), (4, (0, 0, 12801, [])), (8, (2, 0, 0, [175])), (9, (0, -1, 79, [])), (10, (0, -1, 79, [])), (12, (0, -1, 78, [])), (13, (0, 0, 79, [])), (14, (0, 1, 1, []))] : List (Nat × tv_T)), tv_ok ta q.2 (n_v vs q.1) := hk
  obtain ⟨t0, hk⟩ := List.forall_mem_cons.mp hk
  have t0 : tv_ok ta (2, 0, 0, [150]) (n_v vs 0) := t0
  have r0 : ta (v_ad (n_v vs 0)) = some 150 := tv_rg t0
  obtain ⟨t1, hk⟩ := List.forall_mem_cons.mp hk
  have t1 : tv_ok ta (0, 0, 1, []) (n_v vs 1) := t1
  have k1 : 0 ≤ v_iv (n_v vs 1) ∧ v_iv (n_v vs 1) ≤ 1 := tv_rng t1
  obtain ⟨t2, hk⟩ := List.forall_mem_cons.mp hk
  have t2 : tv_ok ta (0, 1, 79, []) (n_v vs 2) := t2
  have k2 : 1 ≤ v_iv (n_v vs 2) ∧ v_iv (n_v vs 2) ≤ 79 := tv_rng t2
  obtain ⟨t3, hk⟩ := List.forall_mem_cons.mp hk
  have t3 : tv_ok ta (0, 0, 78, []) (n_v vs 3) := t3
  have k3 : 0 ≤ v_iv (n_v vs 3) ∧ v_iv (n_v vs 3) ≤ 78 := tv_rng t3
  obtain ⟨t4, hk⟩ := List.forall_mem_cons.mp hk
  have t4 : tv_ok ta (0, 0, 12801, []) (n_v vs 4) := t4
  have k4 : 0 ≤ v_iv (n_v vs 4) ∧ v_iv (n_v vs 4) ≤ 12801 := tv_rng t4
  obtain ⟨t8, hk⟩ := List.forall_mem_cons.mp hk
  have t8 : tv_ok ta (2, 0, 0, [175]) (n_v vs 8) := t8
  have r8 : ta (v_ad (n_v vs 8)) = some 175 := tv_rg t8
  obtain ⟨t9, hk⟩ := List.forall_mem_cons.mp hk
  have t9 : tv_ok ta (0, -1, 79, []) (n_v vs 9) := t9
  have k9 : (-1) ≤ v_iv (n_v vs 9) ∧ v_iv (n_v vs 9) ≤ 79 := tv_rng t9
  obtain ⟨t10, hk⟩ := List.forall_mem_cons.mp hk
  have t10 : tv_ok ta (0, -1, 79, []) (n_v vs 10) := t10
  have k10 : (-1) ≤ v_iv (n_v vs 10) ∧ v_iv (n_v vs 10) ≤ 79 := tv_rng t10
  obtain ⟨t12, hk⟩ := List.forall_mem_cons.mp hk
  have t12 : tv_ok ta (0, -1, 78, []) (n_v vs 12) := t12
  have k12 : (-1) ≤ v_iv (n_v vs 12) ∧ v_iv (n_v vs 12) ≤ 78 := tv_rng t12
  obtain ⟨t13, hk⟩ := List.forall_mem_cons.mp hk
  have t13 : tv_ok ta (0, 0, 79, []) (n_v vs 13) := t13
  have k13 : 0 ≤ v_iv (n_v vs 13) ∧ v_iv (n_v vs 13) ≤ 79 := tv_rng t13
  obtain ⟨t14, hk⟩ := List.forall_mem_cons.mp hk
  have t14 : tv_ok ta (0, 1, 1, []) (n_v vs 14) := t14
  have k14 : 1 ≤ v_iv (n_v vs 14) ∧ v_iv (n_v vs 14) ≤ 1 := tv_rng t14
  have hf : fc_ok [(100, [8, 3, 12], []), (9, [8, 0], [44]), (100, [8, 2, 12], []), (9, [8, 0], [44]), (7, [12, 12], [5]), (7, [12, 13], [5]), (10, [13, 8, 3], []), (9, [8, 0], [44]), (10, [12, 8, 2], []), (9, [8, 0], [44]), (7, [9, 10], [1]), (10, [10, 8, 3], []), (9, [8, 0], [44]), (10, [9, 8, 2], []), (9, [8, 0], [44]), (20, [4, 0, 1], [2, 44, 80, 160, 2])] ta ws vs := hf
  obtain ⟨ta1, w1, le1, ⟨_, s1⟩, hf⟩ := fc_us (show ¬ (100 : Nat) < 100 from by decide) hf
  have s1 : (∀ b j, w_el ws b j = if b = v_ad (n_v vs 8) ∧ j = (v_iv (n_v vs 3)).toNat then v_iv (n_v vs 12) else w_el w1 b j) ∧ ∀ b k, w_fd ws b k = w_fd w1 b k := s1
  obtain ⟨f1, hf⟩ := fc_un (show (9 : Nat) < 100 from by decide) hf
  have f1 : n_v vs 8 = w_fd w1 (v_ad (n_v vs 0)) 44 := f1
  obtain ⟨ta2, w2, le2, ⟨_, s2⟩, hf⟩ := fc_us (show ¬ (100 : Nat) < 100 from by decide) hf
  have s2 : (∀ b j, w_el w1 b j = if b = v_ad (n_v vs 8) ∧ j = (v_iv (n_v vs 2)).toNat then v_iv (n_v vs 12) else w_el w2 b j) ∧ ∀ b k, w_fd w1 b k = w_fd w2 b k := s2
  obtain ⟨f3, hf⟩ := fc_un (show (9 : Nat) < 100 from by decide) hf
  have f3 : n_v vs 8 = w_fd w2 (v_ad (n_v vs 0)) 44 := f3
  obtain ⟨f4, hf⟩ := fc_un (show (7 : Nat) < 100 from by decide) hf
  have f4 : v_iv (n_v vs 12) ≤ v_iv (n_v vs 12) := f4
  obtain ⟨f5, hf⟩ := fc_un (show (7 : Nat) < 100 from by decide) hf
  have f5 : v_iv (n_v vs 12) ≤ v_iv (n_v vs 13) := f5
  obtain ⟨f6, hf⟩ := fc_un (show (10 : Nat) < 100 from by decide) hf
  have f6 : v_iv (n_v vs 13) = w_el w2 (v_ad (n_v vs 8)) (v_iv (n_v vs 3)).toNat := f6
  obtain ⟨f7, hf⟩ := fc_un (show (9 : Nat) < 100 from by decide) hf
  have f7 : n_v vs 8 = w_fd w2 (v_ad (n_v vs 0)) 44 := f7
  obtain ⟨f8, hf⟩ := fc_un (show (10 : Nat) < 100 from by decide) hf
  have f8 : v_iv (n_v vs 12) = w_el w2 (v_ad (n_v vs 8)) (v_iv (n_v vs 2)).toNat := f8
  obtain ⟨f9, hf⟩ := fc_un (show (9 : Nat) < 100 from by decide) hf
  have f9 : n_v vs 8 = w_fd w2 (v_ad (n_v vs 0)) 44 := f9
  obtain ⟨f10, hf⟩ := fc_un (show (7 : Nat) < 100 from by decide) hf
  have f10 : v_iv (n_v vs 9) ≠ v_iv (n_v vs 10) := f10
  obtain ⟨f11, hf⟩ := fc_un (show (10 : Nat) < 100 from by decide) hf
  have f11 : v_iv (n_v vs 10) = w_el w2 (v_ad (n_v vs 8)) (v_iv (n_v vs 3)).toNat := f11
  obtain ⟨f12, hf⟩ := fc_un (show (9 : Nat) < 100 from by decide) hf
  have f12 : n_v vs 8 = w_fd w2 (v_ad (n_v vs 0)) 44 := f12
  obtain ⟨f13, hf⟩ := fc_un (show (10 : Nat) < 100 from by decide) hf
  have f13 : v_iv (n_v vs 9) = w_el w2 (v_ad (n_v vs 8)) (v_iv (n_v vs 2)).toNat := f13
  obtain ⟨f14, hf⟩ := fc_un (show (9 : Nat) < 100 from by decide) hf
  have f14 : n_v vs 8 = w_fd w2 (v_ad (n_v vs 0)) 44 := f14
  obtain ⟨f15, hf⟩ := fc_un (show (20 : Nat) < 100 from by decide) hf
  have f15 : 160 + 2 * w_sum w2 (w_ar w2 (n_v vs 0) 44) 80 + v_iv (n_v vs 1) + 1 ≤ v_iv (n_v vs 4) := f15
  have a8 : v_ad (n_v vs 8) = w_ar ws (n_v vs 0) 44 := by rw [f1]; show _ = v_ad (w_fd ws _ _); rw [s1.2]
  rw [a8] at s1
  rw [a8] at s2
  rw [a8] at f6
  rw [a8] at f8
  rw [a8] at f11
  rw [a8] at f13
  have c44 := r8; rw [a8] at c44
  have e1 : v_iv (n_v vs 12) = v_iv (n_v vs 9) := by rw [f8, f13]
  have e2 : v_iv (n_v vs 13) = v_iv (n_v vs 10) := by rw [f6, f11]
  have hne : (v_iv (n_v vs 2)).toNat ≠ (v_iv (n_v vs 3)).toNat := fun e => f10 (by rw [f13, f11, e])
  have g1 := sum_set s1.1 (n := 80) (by omega)
  have g2 := sum_set s2.1 (n := 80) (by omega)
  rw [el_ne s2.1 (Or.inr (fun e => hne e.symm)), ← f11] at g1
  rw [← f13] at g2
  have t2 : w_ar w2 (n_v vs 0) 44 = w_ar ws (n_v vs 0) 44 := by show v_ad (w_fd w2 _ _) = v_ad (w_fd ws _ _); rw [s1.2, s2.2]
  rw [t2] at f15
  have key : 160 + 2 * w_sum ws (w_ar ws (n_v vs 0) 44) 80 + v_iv (n_v vs 14) + 1 ≤ v_iv (n_v vs 4) := by omega
  have nf0 : fc_1 (20, [4, 0, 14], [2, 44, 80, 160, 2]) ws (vs) := by
    refine ⟨fun n hn => ?_, ?_⟩
    · have hn : n ∈ [4, 0, 14] := hn
      rw [hl]
      simp only [List.mem_cons, List.not_mem_nil, or_false] at hn
      show n < 16; omega
    · show 160 + 2 * w_sum ws (w_ar ws (n_v vs 0) 44) 80 + v_iv (n_v vs 14) + 1 ≤ v_iv (n_v vs 4)
      exact key
  refine ⟨(fun _ h => (by cases h)), [], trivial, ?_, (fun _ h => (by cases h))⟩
  rw [List.append_nil]
  exact List.forall_mem_cons.mpr ⟨⟨show (20 : Nat) < 100 from by decide, nf0⟩, (fun _ h => (by cases h))⟩
def n_Mo_pieces_an : List an_T := [(2, [(0, (2, 0, 0, [150])), (1, (0, 0, 80, []))], [], (0, 0), [(0, 0, 99998), (1, 1, 80), (0, 0, 100000), (0, 0, 0), (0, 0, 0), (0, 0, 0), (0, 0, 0)], [], [], [], 0, [], []), (38, [(0, (2, 0, 0, [150])), (1, (0, 0, 1, []))], [], (0, 0), [(0, 0, 99962), (2, 2, 0), (0, 0, 100000), (0, 0, 0), (0, 0, 0), (0, 0, 0), (0, 0, 0)], [], [], [], 0, [(0, 0, 12801, [])], [(20, [2, 0, 1], [1, 44, 80, 160, 2])]), (46, [(0, (2, 0, 0, [150])), (1, (0, 0, 1, [])), (2, (0, 0, 80, []))], [], (0, 0), [(0, 0, 99962), (2, 3, 0), (0, 0, 99954), (1, 2, 80), (0, 0, 100000), (0, 0, 0), (0, 0, 0)], [(1, 2, -1000000000000, 0)], [], [], 0, [(0, 0, 12801, [])], [(20, [3, 0, 1], [2, 44, 80, 160, 2])]), (56, [(0, (2, 0, 0, [150])), (1, (0, 0, 1, [])), (2, (0, 0, 79, [])), (3, (0, 0, 79, []))], [], (0, 0), [(0, 0, 99962), (2, 4, 0), (0, 0, 99954), (1, 2, 80), (0, 0, 99944), (1, 3, 79), (0, 0, 100000)], [(1, 2, -1000000000000, 0), (1, 3, -1000000000000, 1), (3, 2, -1000000000000, 0)], [], [], 0, [(0, 0, 12801, [])], [(20, [4, 0, 1], [2, 44, 80, 160, 2])])]
def t_Mo_pieces_ct : ct_L := [(0, 547, e_Mo_min), (1, 659, e_Mo_shareNew)]
set_option maxRecDepth 100000 in
theorem c_Mo_pieces {l : Launch} {D : va_G} {kA : Nat → ClassId} (h_Mo_min : ct_ok l D kA GG y_Mo_min z_Mo_min e_Mo_min) (h_Mo_shareNew : ct_ok l D kA GG y_Mo_shareNew z_Mo_shareNew e_Mo_shareNew) : ct_ok l D kA GG y_Mo_pieces z_Mo_pieces e_Mo_pieces := chk_all_ok (FT := [(84, 13, 43), (87, 13, 44), (597, 13, 32)]) (PT := []) (CT := t_Mo_pieces_ct) (KT := []) (NT := []) (AN := n_Mo_pieces_an) (OT := [o_Mo_pieces_0, o_Mo_pieces_1, o_Mo_pieces_2, o_Mo_pieces_3, o_Mo_pieces_4, o_Mo_pieces_5, o_Mo_pieces_6]) 7 464 (List.forall_mem_cons.mpr ⟨oo_Mo_pieces_0, List.forall_mem_cons.mpr ⟨oo_Mo_pieces_1, List.forall_mem_cons.mpr ⟨oo_Mo_pieces_2, List.forall_mem_cons.mpr ⟨oo_Mo_pieces_3, List.forall_mem_cons.mpr ⟨oo_Mo_pieces_4, List.forall_mem_cons.mpr ⟨oo_Mo_pieces_5, List.forall_mem_cons.mpr ⟨oo_Mo_pieces_6, List.forall_mem_nil _⟩⟩⟩⟩⟩⟩⟩) (by decide +kernel) ⟨List.forall_mem_cons.mpr ⟨gf_Mo_84, List.forall_mem_cons.mpr ⟨gf_Mo_87, List.forall_mem_cons.mpr ⟨gf_Mo_597, List.forall_mem_nil _⟩⟩⟩, List.forall_mem_nil _, List.forall_mem_cons.mpr ⟨cl_static (y := y_Mo_min) h_Mo_min wm_3174 wm_9 wm_3172 wm_3173 ⟨by decide, by decide, by decide +kernel⟩ (by decide), List.forall_mem_cons.mpr ⟨cl_virtual (y := y_Mo_shareNew) (ci := 13) rfl rfl ⟨_, _, rfl⟩ (by decide +kernel) h_Mo_shareNew wm_3211 wm_9 wm_3208 wm_3210 wv_15_11 ⟨by decide, by decide, by decide +kernel⟩ (by decide), List.forall_mem_nil _⟩⟩, List.forall_mem_nil _, List.forall_mem_nil _, GG_pl⟩ (by decide +kernel)
def n_Mo_to_an : List an_T := []
def t_Mo_to_ct : ct_L := [(1, 394, e_Mo_tail), (1, 398, e_Mo_head)]
set_option maxRecDepth 100000 in
theorem c_Mo_to {l : Launch} {D : va_G} {kA : Nat → ClassId} (h_Mo_head : ct_ok l D kA GG y_Mo_head z_Mo_head e_Mo_head) (h_Mo_tail : ct_ok l D kA GG y_Mo_tail z_Mo_tail e_Mo_tail) : ct_ok l D kA GG y_Mo_to z_Mo_to e_Mo_to := chk_all_ok (FT := [(210, 13, 95)]) (PT := []) (CT := t_Mo_to_ct) (KT := []) (NT := []) (AN := n_Mo_to_an) (OT := []) 0 200 (List.forall_mem_nil _) (by decide +kernel) ⟨List.forall_mem_cons.mpr ⟨gf_Mo_210, List.forall_mem_nil _⟩, List.forall_mem_nil _, List.forall_mem_cons.mpr ⟨cl_virtual (y := y_Mo_tail) (ci := 13) rfl rfl ⟨_, _, rfl⟩ (by decide +kernel) h_Mo_tail wm_3045 wm_9 wm_3042 wm_3044 wv_13_8 ⟨by decide, by decide, by decide +kernel⟩ (by decide), List.forall_mem_cons.mpr ⟨cl_virtual (y := y_Mo_head) (ci := 13) rfl rfl ⟨_, _, rfl⟩ (by decide +kernel) h_Mo_head wm_3049 wm_9 wm_3046 wm_3048 wv_13_9 ⟨by decide, by decide, by decide +kernel⟩ (by decide), List.forall_mem_nil _⟩⟩, List.forall_mem_nil _, List.forall_mem_nil _, GG_pl⟩ (by decide +kernel)
def n_Ho_forget_an : List an_T := []
def t_Ho_forget_ct : ct_L := [(1, 411, e_Ne_forget), (1, 413, e_Dr_wipe)]
set_option maxRecDepth 100000 in
theorem c_Ho_forget {l : Launch} {D : va_G} {kA : Nat → ClassId} (h_Dr_wipe : ct_ok l D kA GG y_Dr_wipe z_Dr_wipe e_Dr_wipe) (h_Ne_forget : ct_ok l D kA GG y_Ne_forget z_Ne_forget e_Ne_forget) : ct_ok l D kA GG y_Ho_forget z_Ho_forget e_Ho_forget := chk_all_ok (FT := [(19, 12, 1), (25, 12, 2), (31, 12, 3)]) (PT := [(407, 2, 0, .boolean)]) (CT := t_Ho_forget_ct) (KT := []) (NT := []) (AN := n_Ho_forget_an) (OT := []) 0 200 (List.forall_mem_nil _) (by decide +kernel) ⟨List.forall_mem_cons.mpr ⟨gf_Ho_19, List.forall_mem_cons.mpr ⟨gf_Ho_25, List.forall_mem_cons.mpr ⟨gf_Ho_31, List.forall_mem_nil _⟩⟩⟩, List.forall_mem_cons.mpr ⟨pf_Ho_407, List.forall_mem_nil _⟩, List.forall_mem_cons.mpr ⟨cl_virtual (y := y_Ne_forget) (ci := 5) rfl rfl ⟨_, _, rfl⟩ (by decide +kernel) h_Ne_forget wm_793 wm_6 wm_790 wm_791 wm_792 ⟨by decide, by decide, by decide +kernel⟩ (by decide), List.forall_mem_cons.mpr ⟨cl_virtual (y := y_Dr_wipe) (ci := 0) rfl rfl ⟨_, _, rfl⟩ (by decide +kernel) h_Dr_wipe wm_797 wm_8 wm_794 wm_795 wm_796 ⟨by decide, by decide, by decide +kernel⟩ (by decide), List.forall_mem_nil _⟩⟩, List.forall_mem_nil _, List.forall_mem_nil _, GG_pl⟩ (by decide +kernel)
def n_Ho_group_an : List an_T := []
def t_Ho_group_ct : ct_L := [(0, 115, e_Ho_isPlace), (1, 218, e_Gr_hasGroup), (1, 227, e_Gr_sizeOfGroup)]
set_option maxRecDepth 100000 in
theorem c_Ho_group {l : Launch} {D : va_G} {kA : Nat → ClassId} (h_Gr_hasGroup : ct_ok l D kA GG y_Gr_hasGroup z_Gr_hasGroup e_Gr_hasGroup) (h_Gr_sizeOfGroup : ct_ok l D kA GG y_Gr_sizeOfGroup z_Gr_sizeOfGroup e_Gr_sizeOfGroup) (h_Ho_isPlace : ct_ok l D kA GG y_Ho_isPlace z_Ho_isPlace e_Ho_isPlace) : ct_ok l D kA GG y_Ho_group z_Ho_group e_Ho_group := chk_all_ok (FT := [(13, 12, 0), (221, 3, 11), (224, 3, 13)]) (PT := []) (CT := t_Ho_group_ct) (KT := []) (NT := []) (AN := n_Ho_group_an) (OT := []) 0 200 (List.forall_mem_nil _) (by decide +kernel) ⟨List.forall_mem_cons.mpr ⟨gf_Ho_13, List.forall_mem_cons.mpr ⟨gf_Ho_221, List.forall_mem_cons.mpr ⟨gf_Ho_224, List.forall_mem_nil _⟩⟩⟩, List.forall_mem_nil _, List.forall_mem_cons.mpr ⟨cl_static (y := y_Ho_isPlace) h_Ho_isPlace wm_633 wm_1 wm_631 wm_632 ⟨by decide, by decide, by decide +kernel⟩ (by decide), List.forall_mem_cons.mpr ⟨cl_virtual (y := y_Gr_hasGroup) (ci := 3) rfl rfl ⟨_, _, rfl⟩ (by decide +kernel) h_Gr_hasGroup wm_942 wm_3 wm_939 wm_940 wm_941 ⟨by decide, by decide, by decide +kernel⟩ (by decide), List.forall_mem_cons.mpr ⟨cl_virtual (y := y_Gr_sizeOfGroup) (ci := 3) rfl rfl ⟨_, _, rfl⟩ (by decide +kernel) h_Gr_sizeOfGroup wm_946 wm_3 wm_943 wm_944 wm_945 ⟨by decide, by decide, by decide +kernel⟩ (by decide), List.forall_mem_nil _⟩⟩⟩, List.forall_mem_nil _, List.forall_mem_nil _, GG_pl⟩ (by decide +kernel)
def n_Ho_letter_an : List an_T := []
def t_Ho_letter_ct : ct_L := [(0, 115, e_Ho_isPlace), (1, 166, e_Gr_hasNode), (1, 218, e_Gr_hasGroup)]
set_option maxRecDepth 100000 in
theorem c_Ho_letter {l : Launch} {D : va_G} {kA : Nat → ClassId} (h_Gr_hasGroup : ct_ok l D kA GG y_Gr_hasGroup z_Gr_hasGroup e_Gr_hasGroup) (h_Gr_hasNode : ct_ok l D kA GG y_Gr_hasNode z_Gr_hasNode e_Gr_hasNode) (h_Ho_isPlace : ct_ok l D kA GG y_Ho_isPlace z_Ho_isPlace e_Ho_isPlace) : ct_ok l D kA GG y_Ho_letter z_Ho_letter e_Ho_letter := chk_all_ok (FT := [(13, 12, 0), (169, 3, 4), (224, 3, 13), (230, 3, 3), (233, 3, 12)]) (PT := []) (CT := t_Ho_letter_ct) (KT := []) (NT := []) (AN := n_Ho_letter_an) (OT := []) 0 352 (List.forall_mem_nil _) (by decide +kernel) ⟨List.forall_mem_cons.mpr ⟨gf_Ho_13, List.forall_mem_cons.mpr ⟨gf_Ho_169, List.forall_mem_cons.mpr ⟨gf_Ho_224, List.forall_mem_cons.mpr ⟨gf_Ho_230, List.forall_mem_cons.mpr ⟨gf_Ho_233, List.forall_mem_nil _⟩⟩⟩⟩⟩, List.forall_mem_nil _, List.forall_mem_cons.mpr ⟨cl_static (y := y_Ho_isPlace) h_Ho_isPlace wm_633 wm_1 wm_631 wm_632 ⟨by decide, by decide, by decide +kernel⟩ (by decide), List.forall_mem_cons.mpr ⟨cl_virtual (y := y_Gr_hasNode) (ci := 3) rfl rfl ⟨_, _, rfl⟩ (by decide +kernel) h_Gr_hasNode wm_921 wm_3 wm_918 wm_919 wm_920 ⟨by decide, by decide, by decide +kernel⟩ (by decide), List.forall_mem_cons.mpr ⟨cl_virtual (y := y_Gr_hasGroup) (ci := 3) rfl rfl ⟨_, _, rfl⟩ (by decide +kernel) h_Gr_hasGroup wm_942 wm_3 wm_939 wm_940 wm_941 ⟨by decide, by decide, by decide +kernel⟩ (by decide), List.forall_mem_nil _⟩⟩⟩, List.forall_mem_nil _, List.forall_mem_nil _, GG_pl⟩ (by decide +kernel)
def o_Ho_mayBecome_0 : or_T := (3, 5, [(3, (0, 0, 23, [])), (4, (0, -1, 23, []))], [(10, [4, 2, 3], []), (20, [2, 3], [8, 0, 23, 1])], [(4, (0, 0, 23, []))], [], [], [], [])
theorem oo_Ho_mayBecome_0 {kA : Nat → ClassId} : or_ok kA GG o_Ho_mayBecome_0 := by
  intro A ta ws vs hD hth hl hk hds hf
  have hl : vs.length = 5 := hl
  have hk : ∀ q ∈ ([(3, (0, 0, 23, [])), (4, (0, -1, 23, []))] : List (Nat × tv_T)), tv_ok ta q.2 (n_v vs q.1) := hk
  obtain ⟨t3, hk⟩ := List.forall_mem_cons.mp hk
  have t3 : tv_ok ta (0, 0, 23, []) (n_v vs 3) := t3
  have k3 : 0 ≤ v_iv (n_v vs 3) ∧ v_iv (n_v vs 3) ≤ 23 := tv_rng t3
  obtain ⟨t4, hk⟩ := List.forall_mem_cons.mp hk
  have t4 : tv_ok ta (0, -1, 23, []) (n_v vs 4) := t4
  have k4 : (-1) ≤ v_iv (n_v vs 4) ∧ v_iv (n_v vs 4) ≤ 23 := tv_rng t4
  have hf : fc_ok [(10, [4, 2, 3], []), (20, [2, 3], [8, 0, 23, 1])] ta ws vs := hf
  obtain ⟨f0, hf⟩ := fc_un (show (10 : Nat) < 100 from by decide) hf
  have f0 : v_iv (n_v vs 4) = w_el ws (v_ad (n_v vs 2)) (v_iv (n_v vs 3)).toNat := f0
  obtain ⟨f1, hf⟩ := fc_un (show (20 : Nat) < 100 from by decide) hf
  have f1 : ∀ j : Nat, (j : Int) < v_iv (n_v vs 3) + 1 → 0 ≤ w_el ws (v_ad (n_v vs 2)) j ∧ w_el ws (v_ad (n_v vs 2)) j ≤ 23 := f1
  have u := f1 (v_iv (n_v vs 3)).toNat (by omega)
  rw [← f0] at u
  have rf4 : tv_ok ta (0, 0, 23, []) (n_v vs 4) := tv_in t4 (by omega) (by omega)
  refine ⟨List.forall_mem_cons.mpr ⟨rf4, (fun _ h => (by cases h))⟩, [], trivial, ?_, (fun _ h => (by cases h))⟩
  rw [List.append_nil]
  exact (fun _ h => (by cases h))
def o_Ho_mayBecome_1 : or_T := (52, 8, [(3, (0, 1, 23, [])), (5, (0, 0, 22, [])), (7, (0, -1, 23, []))], [(10, [7, 2, 5], []), (7, [5, 3], [2]), (20, [2, 3], [8, 0, 23, 1])], [(7, (0, 0, 23, []))], [], [], [], [(5, 3, -4294967296, -1), (3, 5, -4294967296, 23), (5, 3, -4294967296, 0)])
theorem oo_Ho_mayBecome_1 {kA : Nat → ClassId} : or_ok kA GG o_Ho_mayBecome_1 := by
  intro A ta ws vs hD hth hl hk hds hf
  have hl : vs.length = 8 := hl
  have hk : ∀ q ∈ ([(3, (0, 1, 23, [])), (5, (0, 0, 22, [])), (7, (0, -1, 23, []))] : List (Nat × tv_T)), tv_ok ta q.2 (n_v vs q.1) := hk
  obtain ⟨t3, hk⟩ := List.forall_mem_cons.mp hk
  have t3 : tv_ok ta (0, 1, 23, []) (n_v vs 3) := t3
  have k3 : 1 ≤ v_iv (n_v vs 3) ∧ v_iv (n_v vs 3) ≤ 23 := tv_rng t3
  obtain ⟨t5, hk⟩ := List.forall_mem_cons.mp hk
  have t5 : tv_ok ta (0, 0, 22, []) (n_v vs 5) := t5
  have k5 : 0 ≤ v_iv (n_v vs 5) ∧ v_iv (n_v vs 5) ≤ 22 := tv_rng t5
  obtain ⟨t7, hk⟩ := List.forall_mem_cons.mp hk
  have t7 : tv_ok ta (0, -1, 23, []) (n_v vs 7) := t7
  have k7 : (-1) ≤ v_iv (n_v vs 7) ∧ v_iv (n_v vs 7) ≤ 23 := tv_rng t7
  have hds : ∀ q ∈ ([(5, 3, -4294967296, -1), (3, 5, -4294967296, 23), (5, 3, -4294967296, 0)] : List of_T), n_iv vs q.2.1 + q.2.2.1 ≤ n_iv vs q.1 ∧ n_iv vs q.1 ≤ n_iv vs q.2.1 + q.2.2.2 := hds
  obtain ⟨d0, hds⟩ := List.forall_mem_cons.mp hds
  have d0 : v_iv (n_v vs 3) + (-4294967296) ≤ v_iv (n_v vs 5) ∧ v_iv (n_v vs 5) ≤ v_iv (n_v vs 3) + (-1) := d0
  obtain ⟨d1, hds⟩ := List.forall_mem_cons.mp hds
  have d1 : v_iv (n_v vs 5) + (-4294967296) ≤ v_iv (n_v vs 3) ∧ v_iv (n_v vs 3) ≤ v_iv (n_v vs 5) + 23 := d1
  obtain ⟨d2, hds⟩ := List.forall_mem_cons.mp hds
  have d2 : v_iv (n_v vs 3) + (-4294967296) ≤ v_iv (n_v vs 5) ∧ v_iv (n_v vs 5) ≤ v_iv (n_v vs 3) + 0 := d2
  have hf : fc_ok [(10, [7, 2, 5], []), (7, [5, 3], [2]), (20, [2, 3], [8, 0, 23, 1])] ta ws vs := hf
  obtain ⟨f0, hf⟩ := fc_un (show (10 : Nat) < 100 from by decide) hf
  have f0 : v_iv (n_v vs 7) = w_el ws (v_ad (n_v vs 2)) (v_iv (n_v vs 5)).toNat := f0
  obtain ⟨f1, hf⟩ := fc_un (show (7 : Nat) < 100 from by decide) hf
  have f1 : v_iv (n_v vs 5) < v_iv (n_v vs 3) := f1
  obtain ⟨f2, hf⟩ := fc_un (show (20 : Nat) < 100 from by decide) hf
  have f2 : ∀ j : Nat, (j : Int) < v_iv (n_v vs 3) + 1 → 0 ≤ w_el ws (v_ad (n_v vs 2)) j ∧ w_el ws (v_ad (n_v vs 2)) j ≤ 23 := f2
  have u := f2 (v_iv (n_v vs 5)).toNat (by omega)
  rw [← f0] at u
  have rf7 : tv_ok ta (0, 0, 23, []) (n_v vs 7) := tv_in t7 (by omega) (by omega)
  refine ⟨List.forall_mem_cons.mpr ⟨rf7, (fun _ h => (by cases h))⟩, [], trivial, ?_, (fun _ h => (by cases h))⟩
  rw [List.append_nil]
  exact (fun _ h => (by cases h))
def n_Ho_mayBecome_an : List an_T := [(32, [(0, (2, 0, 0, [3])), (1, (2, 0, 0, [3])), (2, (2, 0, 0, [269])), (3, (0, 0, 23, [])), (4, (0, 0, 23, [])), (5, (0, 0, 23, []))], [], (0, 0), [(0, 0, 99968), (1, 5, 23), (0, 0, 100000)], [(3, 4, -1000000000000, 23), (3, 5, -1000000000000, 23), (4, 3, -1000000000000, 23), (4, 5, -1000000000000, 23), (5, 3, -1000000000000, 0)], [], [], 0, [], [(20, [2, 3], [8, 0, 23, 1])])]
def t_Ho_mayBecome_ct : ct_L := [(1, 435, e_Gr_relation), (36, 181, e_jInt_bitCount_v7), (66, 181, e_jInt_bitCount_v7)]
set_option maxRecDepth 100000 in
theorem c_Ho_mayBecome {l : Launch} {D : va_G} {kA : Nat → ClassId} (h_Gr_relation : ct_ok l D kA GG y_Gr_relation z_Gr_relation e_Gr_relation) : ct_ok l D kA GG y_Ho_mayBecome z_Ho_mayBecome e_Ho_mayBecome := chk_all_ok (FT := [(178, 3, 14)]) (PT := []) (CT := t_Ho_mayBecome_ct) (KT := []) (NT := []) (AN := n_Ho_mayBecome_an) (OT := [o_Ho_mayBecome_0, o_Ho_mayBecome_1]) 3 400 (List.forall_mem_cons.mpr ⟨oo_Ho_mayBecome_0, List.forall_mem_cons.mpr ⟨oo_Ho_mayBecome_1, List.forall_mem_nil _⟩⟩) (by decide +kernel) ⟨List.forall_mem_cons.mpr ⟨gf_Ho_178, List.forall_mem_nil _⟩, List.forall_mem_nil _, List.forall_mem_cons.mpr ⟨cl_virtual (y := y_Gr_relation) (ci := 3) rfl rfl ⟨_, _, rfl⟩ (by decide +kernel) h_Gr_relation wm_1039 wm_3 wm_1036 wm_1037 wm_1038 ⟨by decide, by decide, by decide +kernel⟩ (by decide), List.forall_mem_cons.mpr ⟨cl_static (y := y_jInt_bitCount) c_jInt_bitCount_v7 wm_870 wm_17 wm_922 wm_869 ⟨by decide, by decide, by decide +kernel⟩ (by decide), List.forall_mem_cons.mpr ⟨cl_static (y := y_jInt_bitCount) c_jInt_bitCount_v7 wm_870 wm_17 wm_922 wm_869 ⟨by decide, by decide, by decide +kernel⟩ (by decide), List.forall_mem_nil _⟩⟩⟩, List.forall_mem_nil _, List.forall_mem_nil _, GG_pl⟩ (by decide +kernel)
def n_Ho_shade_an : List an_T := []
def t_Ho_shade_ct : ct_L := [(0, 115, e_Ho_isPlace), (1, 166, e_Gr_hasNode), (1, 197, e_Gr_hasEdge)]
set_option maxRecDepth 100000 in
theorem c_Ho_shade {l : Launch} {D : va_G} {kA : Nat → ClassId} (h_Gr_hasEdge : ct_ok l D kA GG y_Gr_hasEdge z_Gr_hasEdge e_Gr_hasEdge) (h_Gr_hasNode : ct_ok l D kA GG y_Gr_hasNode z_Gr_hasNode e_Gr_hasNode) (h_Ho_isPlace : ct_ok l D kA GG y_Ho_isPlace z_Ho_isPlace e_Ho_isPlace) : ct_ok l D kA GG y_Ho_shade z_Ho_shade e_Ho_shade := chk_all_ok (FT := [(13, 12, 0), (31, 12, 3), (361, 0, 14)]) (PT := []) (CT := t_Ho_shade_ct) (KT := []) (NT := []) (AN := n_Ho_shade_an) (OT := []) 0 332 (List.forall_mem_nil _) (by decide +kernel) ⟨List.forall_mem_cons.mpr ⟨gf_Ho_13, List.forall_mem_cons.mpr ⟨gf_Ho_31, List.forall_mem_cons.mpr ⟨gf_Ho_361, List.forall_mem_nil _⟩⟩⟩, List.forall_mem_nil _, List.forall_mem_cons.mpr ⟨cl_static (y := y_Ho_isPlace) h_Ho_isPlace wm_633 wm_1 wm_631 wm_632 ⟨by decide, by decide, by decide +kernel⟩ (by decide), List.forall_mem_cons.mpr ⟨cl_virtual (y := y_Gr_hasNode) (ci := 3) rfl rfl ⟨_, _, rfl⟩ (by decide +kernel) h_Gr_hasNode wm_921 wm_3 wm_918 wm_919 wm_920 ⟨by decide, by decide, by decide +kernel⟩ (by decide), List.forall_mem_cons.mpr ⟨cl_virtual (y := y_Gr_hasEdge) (ci := 3) rfl rfl ⟨_, _, rfl⟩ (by decide +kernel) h_Gr_hasEdge wm_930 wm_3 wm_927 wm_928 wm_929 ⟨by decide, by decide, by decide +kernel⟩ (by decide), List.forall_mem_nil _⟩⟩⟩, List.forall_mem_nil _, List.forall_mem_nil _, GG_pl⟩ (by decide +kernel)
def o_Ho_writeNumber_0 : or_T := (25, 7, [(0, (2, 0, 0, [12])), (2, (0, 0, 99999992, [])), (6, (0, 0, 0, []))], [(20, [0, 2], [30, 0, 1, 1, 12, -1, 0, 0])], [], [], [(20, [0, 2, 6], [30, 1, 1, 1, 12, -1, 0, 0, -1, 0, 0]), (24, [0, 0], [])], [], [])
theorem oo_Ho_writeNumber_0 {kA : Nat → ClassId} : or_ok kA GG o_Ho_writeNumber_0 := by
  intro A ta ws vs hD hth hl hk hds hf
  have hl : vs.length = 7 := hl
  have hk : ∀ q ∈ ([(0, (2, 0, 0, [12])), (2, (0, 0, 99999992, [])), (6, (0, 0, 0, []))] : List (Nat × tv_T)), tv_ok ta q.2 (n_v vs q.1) := hk
  obtain ⟨t0, hk⟩ := List.forall_mem_cons.mp hk
  have t0 : tv_ok ta (2, 0, 0, [12]) (n_v vs 0) := t0
  have r0 : ta (v_ad (n_v vs 0)) = some 12 := tv_rg t0
  obtain ⟨t2, hk⟩ := List.forall_mem_cons.mp hk
  have t2 : tv_ok ta (0, 0, 99999992, []) (n_v vs 2) := t2
  have k2 : 0 ≤ v_iv (n_v vs 2) ∧ v_iv (n_v vs 2) ≤ 99999992 := tv_rng t2
  obtain ⟨t6, hk⟩ := List.forall_mem_cons.mp hk
  have t6 : tv_ok ta (0, 0, 0, []) (n_v vs 6) := t6
  have k6 : 0 ≤ v_iv (n_v vs 6) ∧ v_iv (n_v vs 6) ≤ 0 := tv_rng t6
  have hf : fc_ok [(20, [0, 2], [30, 0, 1, 1, 12, -1, 0, 0])] ta ws vs := hf
  obtain ⟨f0, hf⟩ := fc_un (show (20 : Nat) < 100 from by decide) hf
  have f0 : 1 * w_fi ws (n_v vs 0) 12 + ((-1) * v_iv (n_v vs 2) + 0) ≤ 0 := f0
  have kz_0_12 : 0 ≤ w_fi ws (n_v vs 0) 12 ∧ w_fi ws (n_v vs 0) 12 ≤ 100000000 := tv_rng (th_fd hD hth r0 (g := GG_12) rfl (k := 12) (t := (0, 0, 100000000, [])) rfl rfl)
  have nf0 : fc_1 (20, [0, 2, 6], [30, 1, 1, 1, 12, -1, 0, 0, -1, 0, 0]) ws (vs) := by
    refine ⟨fun n hn => ?_, ?_⟩
    · have hn : n ∈ [0, 2, 6] := hn
      rw [hl]
      simp only [List.mem_cons, List.not_mem_nil, or_false] at hn
      show n < 7; omega
    · show 1 * w_fi ws (n_v vs 0) 12 + ((-1) * v_iv (n_v vs 2) + ((-1) * v_iv (n_v vs 6) + 0)) ≤ 1
      omega
  have nf1 : fc_1 (24, [0, 0], []) ws (vs) := by
    refine ⟨fun n hn => ?_, ?_⟩
    · have hn : n ∈ [0, 0] := hn
      rw [hl]
      simp only [List.mem_cons, List.not_mem_nil, or_false] at hn
      show n < 7; omega
    · show n_v vs 0 = n_v vs 0
      first | rfl | simp only [true_and]
  refine ⟨(fun _ h => (by cases h)), [], trivial, ?_, (fun _ h => (by cases h))⟩
  rw [List.append_nil]
  exact List.forall_mem_cons.mpr ⟨⟨show (20 : Nat) < 100 from by decide, nf0⟩, List.forall_mem_cons.mpr ⟨⟨show (24 : Nat) < 100 from by decide, nf1⟩, (fun _ h => (by cases h))⟩⟩
def o_Ho_writeNumber_1 : or_T := (7, 4, [(0, (2, 0, 0, [12])), (2, (0, 0, 99999992, []))], [(20, [0, 2], [30, 0, 1, 1, 12, -1, 0, 0])], [], [(0, 0, 99999999, [])], [(20, [0, 4], [30, 0, 1, 1, 12, -1, 0, 0]), (23, [4, 2], [0, 1, -1])], [], [])
theorem oo_Ho_writeNumber_1 {kA : Nat → ClassId} : or_ok kA GG o_Ho_writeNumber_1 := by
  intro A ta ws vs hD hth hl hk hds hf
  have hl : vs.length = 4 := hl
  have hk : ∀ q ∈ ([(0, (2, 0, 0, [12])), (2, (0, 0, 99999992, []))] : List (Nat × tv_T)), tv_ok ta q.2 (n_v vs q.1) := hk
  obtain ⟨t0, hk⟩ := List.forall_mem_cons.mp hk
  have t0 : tv_ok ta (2, 0, 0, [12]) (n_v vs 0) := t0
  have r0 : ta (v_ad (n_v vs 0)) = some 12 := tv_rg t0
  obtain ⟨t2, hk⟩ := List.forall_mem_cons.mp hk
  have t2 : tv_ok ta (0, 0, 99999992, []) (n_v vs 2) := t2
  have k2 : 0 ≤ v_iv (n_v vs 2) ∧ v_iv (n_v vs 2) ≤ 99999992 := tv_rng t2
  have hf : fc_ok [(20, [0, 2], [30, 0, 1, 1, 12, -1, 0, 0])] ta ws vs := hf
  obtain ⟨f0, hf⟩ := fc_un (show (20 : Nat) < 100 from by decide) hf
  have f0 : 1 * w_fi ws (n_v vs 0) 12 + ((-1) * v_iv (n_v vs 2) + 0) ≤ 0 := f0
  have kz_0_12 : 0 ≤ w_fi ws (n_v vs 0) 12 ∧ w_fi ws (n_v vs 0) 12 ≤ 100000000 := tv_rng (th_fd hD hth r0 (g := GG_12) rfl (k := 12) (t := (0, 0, 100000000, [])) rfl rfl)
  have kv0 : 0 ≤ w_fi ws (n_v vs 0) 12 ∧ w_fi ws (n_v vs 0) 12 ≤ 100000000 := tv_rng (th_fd hD hth r0 (g := GG_12) rfl (k := 12) (t := (0, 0, 100000000, [])) rfl rfl)
  obtain ⟨x, ex, hx⟩ := iv_ex (ta := ta) (lo := 0) (hi := 99999999) (z := w_fi ws (n_v vs 0) 12) (by omega) (by omega) (by omega) (by omega)
  have ex2 : v_iv (Value.int x) = w_fi ws (n_v vs 0) 12 := ex
  have ex3 : 0 ≤ v_iv (Value.int x) ∧ v_iv (Value.int x) ≤ 99999999 := tv_rng hx
  have e_0 : n_v (vs ++ [Value.int x]) 0 = n_v vs 0 := n_v_old (by rw [hl]; decide)
  have e_2 : n_v (vs ++ [Value.int x]) 2 = n_v vs 2 := n_v_old (by rw [hl]; decide)
  have e_4 : n_v (vs ++ [Value.int x]) 4 = Value.int x := n_v_new hl
  have nf0 : fc_1 (20, [0, 4], [30, 0, 1, 1, 12, -1, 0, 0]) ws (vs ++ [Value.int x]) := by
    refine ⟨fun n hn => ?_, ?_⟩
    · have hn : n ∈ [0, 4] := hn
      rw [List.length_append, hl]
      simp only [List.mem_cons, List.not_mem_nil, or_false] at hn
      show n < 4 + 1; omega
    · show 1 * w_fi ws (n_v (vs ++ [Value.int x]) 0) 12 + ((-1) * v_iv (n_v (vs ++ [Value.int x]) 4) + 0) ≤ 0
      rw [e_0]
      rw [e_4]
      omega
  have nf1 : fc_1 (23, [4, 2], [0, 1, -1]) ws (vs ++ [Value.int x]) := by
    refine ⟨fun n hn => ?_, ?_⟩
    · have hn : n ∈ [4, 2] := hn
      rw [List.length_append, hl]
      simp only [List.mem_cons, List.not_mem_nil, or_false] at hn
      show n < 4 + 1; omega
    · show 1 * v_iv (n_v (vs ++ [Value.int x]) 4) + ((-1) * v_iv (n_v (vs ++ [Value.int x]) 2) + 0) ≤ 0
      rw [e_2]
      rw [e_4]
      omega
  exact ⟨(fun _ h => (by cases h)), [Value.int x], ag_one hx, List.forall_mem_cons.mpr ⟨⟨show (20 : Nat) < 100 from by decide, nf0⟩, List.forall_mem_cons.mpr ⟨⟨show (23 : Nat) < 100 from by decide, nf1⟩, (fun _ h => (by cases h))⟩⟩, (fun _ h => (by cases h))⟩
def o_Ho_writeNumber_2 : or_T := (25, 9, [(0, (2, 0, 0, [12])), (2, (0, 0, 99999992, [])), (4, (0, 0, 99999999, [])), (8, (0, 0, 0, []))], [(23, [4, 2], [0, 1, -1]), (20, [0, 4], [30, 1, 1, 1, 12, -1, 0, 0]), (102, [4], [261336857795280739939871698507597986398208, 12012]), (23, [4, 2], [0, 1, -1])], [], [], [(20, [0, 2, 8], [30, 1, 1, 1, 12, -1, 0, 0, -1, 0, 0]), (24, [0, 0], [])], [], [])
theorem oo_Ho_writeNumber_2 {kA : Nat → ClassId} : or_ok kA GG o_Ho_writeNumber_2 := by
  intro A ta ws vs hD hth hl hk hds hf
  have hl : vs.length = 9 := hl
  have hk : ∀ q ∈ ([(0, (2, 0, 0, [12])), (2, (0, 0, 99999992, [])), (4, (0, 0, 99999999, [])), (8, (0, 0, 0, []))] : List (Nat × tv_T)), tv_ok ta q.2 (n_v vs q.1) := hk
  obtain ⟨t0, hk⟩ := List.forall_mem_cons.mp hk
  have t0 : tv_ok ta (2, 0, 0, [12]) (n_v vs 0) := t0
  have r0 : ta (v_ad (n_v vs 0)) = some 12 := tv_rg t0
  obtain ⟨t2, hk⟩ := List.forall_mem_cons.mp hk
  have t2 : tv_ok ta (0, 0, 99999992, []) (n_v vs 2) := t2
  have k2 : 0 ≤ v_iv (n_v vs 2) ∧ v_iv (n_v vs 2) ≤ 99999992 := tv_rng t2
  obtain ⟨t4, hk⟩ := List.forall_mem_cons.mp hk
  have t4 : tv_ok ta (0, 0, 99999999, []) (n_v vs 4) := t4
  have k4 : 0 ≤ v_iv (n_v vs 4) ∧ v_iv (n_v vs 4) ≤ 99999999 := tv_rng t4
  obtain ⟨t8, hk⟩ := List.forall_mem_cons.mp hk
  have t8 : tv_ok ta (0, 0, 0, []) (n_v vs 8) := t8
  have k8 : 0 ≤ v_iv (n_v vs 8) ∧ v_iv (n_v vs 8) ≤ 0 := tv_rng t8
  have hf : fc_ok [(23, [4, 2], [0, 1, -1]), (20, [0, 4], [30, 1, 1, 1, 12, -1, 0, 0]), (102, [4], [261336857795280739939871698507597986398208, 12012]), (23, [4, 2], [0, 1, -1])] ta ws vs := hf
  obtain ⟨f0, hf⟩ := fc_un (show (23 : Nat) < 100 from by decide) hf
  have f0 : 1 * v_iv (n_v vs 4) + ((-1) * v_iv (n_v vs 2) + 0) ≤ 0 := f0
  obtain ⟨f1, hf⟩ := fc_un (show (20 : Nat) < 100 from by decide) hf
  have f1 : 1 * w_fi ws (n_v vs 0) 12 + ((-1) * v_iv (n_v vs 4) + 0) ≤ 1 := f1
  obtain ⟨ta1, w1, le1, ⟨_, s1⟩, hf⟩ := fc_us (show ¬ (102 : Nat) < 100 from by decide) hf
  obtain ⟨f3, hf⟩ := fc_un (show (23 : Nat) < 100 from by decide) hf
  have f3 : 1 * v_iv (n_v vs 4) + ((-1) * v_iv (n_v vs 2) + 0) ≤ 0 := f3
  have kz_0_12 : 0 ≤ w_fi ws (n_v vs 0) 12 ∧ w_fi ws (n_v vs 0) 12 ≤ 100000000 := tv_rng (th_fd hD hth r0 (g := GG_12) rfl (k := 12) (t := (0, 0, 100000000, [])) rfl rfl)
  have nf0 : fc_1 (20, [0, 2, 8], [30, 1, 1, 1, 12, -1, 0, 0, -1, 0, 0]) ws (vs) := by
    refine ⟨fun n hn => ?_, ?_⟩
    · have hn : n ∈ [0, 2, 8] := hn
      rw [hl]
      simp only [List.mem_cons, List.not_mem_nil, or_false] at hn
      show n < 9; omega
    · show 1 * w_fi ws (n_v vs 0) 12 + ((-1) * v_iv (n_v vs 2) + ((-1) * v_iv (n_v vs 8) + 0)) ≤ 1
      omega
  have nf1 : fc_1 (24, [0, 0], []) ws (vs) := by
    refine ⟨fun n hn => ?_, ?_⟩
    · have hn : n ∈ [0, 0] := hn
      rw [hl]
      simp only [List.mem_cons, List.not_mem_nil, or_false] at hn
      show n < 9; omega
    · show n_v vs 0 = n_v vs 0
      first | rfl | simp only [true_and]
  refine ⟨(fun _ h => (by cases h)), [], trivial, ?_, (fun _ h => (by cases h))⟩
  rw [List.append_nil]
  exact List.forall_mem_cons.mpr ⟨⟨show (20 : Nat) < 100 from by decide, nf0⟩, List.forall_mem_cons.mpr ⟨⟨show (24 : Nat) < 100 from by decide, nf1⟩, (fun _ h => (by cases h))⟩⟩
def o_Ho_writeNumber_3 : or_T := (93, 10, [(0, (2, 0, 0, [12])), (2, (0, 0, 99999992, [])), (3, (2, 0, 0, [12])), (8, (0, 7, 7, [])), (9, (0, 7, 7, []))], [(7, [8, 9], [3]), (20, [3, 2, 8], [30, 1, 1, 1, 12, -1, 0, 0, -1, 0, 0]), (24, [0, 3], [])], [], [], [(20, [0, 2], [30, 8, 1, 1, 12, -1, 0, 0])], [], [])
theorem oo_Ho_writeNumber_3 {kA : Nat → ClassId} : or_ok kA GG o_Ho_writeNumber_3 := by
  intro A ta ws vs hD hth hl hk hds hf
  have hl : vs.length = 10 := hl
  have hk : ∀ q ∈ ([(0, (2, 0, 0, [12])), (2, (0, 0, 99999992, [])), (3, (2, 0, 0, [12])), (8, (0, 7, 7, [])), (9, (0, 7, 7, []))] : List (Nat × tv_T)), tv_ok ta q.2 (n_v vs q.1) := hk
  obtain ⟨t0, hk⟩ := List.forall_mem_cons.mp hk
  have t0 : tv_ok ta (2, 0, 0, [12]) (n_v vs 0) := t0
  have r0 : ta (v_ad (n_v vs 0)) = some 12 := tv_rg t0
  obtain ⟨t2, hk⟩ := List.forall_mem_cons.mp hk
  have t2 : tv_ok ta (0, 0, 99999992, []) (n_v vs 2) := t2
  have k2 : 0 ≤ v_iv (n_v vs 2) ∧ v_iv (n_v vs 2) ≤ 99999992 := tv_rng t2
  obtain ⟨t3, hk⟩ := List.forall_mem_cons.mp hk
  have t3 : tv_ok ta (2, 0, 0, [12]) (n_v vs 3) := t3
  have r3 : ta (v_ad (n_v vs 3)) = some 12 := tv_rg t3
  obtain ⟨t8, hk⟩ := List.forall_mem_cons.mp hk
  have t8 : tv_ok ta (0, 7, 7, []) (n_v vs 8) := t8
  have k8 : 7 ≤ v_iv (n_v vs 8) ∧ v_iv (n_v vs 8) ≤ 7 := tv_rng t8
  obtain ⟨t9, hk⟩ := List.forall_mem_cons.mp hk
  have t9 : tv_ok ta (0, 7, 7, []) (n_v vs 9) := t9
  have k9 : 7 ≤ v_iv (n_v vs 9) ∧ v_iv (n_v vs 9) ≤ 7 := tv_rng t9
  have hf : fc_ok [(7, [8, 9], [3]), (20, [3, 2, 8], [30, 1, 1, 1, 12, -1, 0, 0, -1, 0, 0]), (24, [0, 3], [])] ta ws vs := hf
  obtain ⟨f0, hf⟩ := fc_un (show (7 : Nat) < 100 from by decide) hf
  have f0 : v_iv (n_v vs 9) ≤ v_iv (n_v vs 8) := f0
  obtain ⟨f1, hf⟩ := fc_un (show (20 : Nat) < 100 from by decide) hf
  have f1 : 1 * w_fi ws (n_v vs 3) 12 + ((-1) * v_iv (n_v vs 2) + ((-1) * v_iv (n_v vs 8) + 0)) ≤ 1 := f1
  obtain ⟨f2, hf⟩ := fc_un (show (24 : Nat) < 100 from by decide) hf
  have f2 : n_v vs 0 = n_v vs 3 := f2
  have q3 : n_v vs 3 = n_v vs 0 := f2.symm
  rw [q3] at f1
  have kz_0_12 : 0 ≤ w_fi ws (n_v vs 0) 12 ∧ w_fi ws (n_v vs 0) 12 ≤ 100000000 := tv_rng (th_fd hD hth r0 (g := GG_12) rfl (k := 12) (t := (0, 0, 100000000, [])) rfl rfl)
  have nf0 : fc_1 (20, [0, 2], [30, 8, 1, 1, 12, -1, 0, 0]) ws (vs) := by
    refine ⟨fun n hn => ?_, ?_⟩
    · have hn : n ∈ [0, 2] := hn
      rw [hl]
      simp only [List.mem_cons, List.not_mem_nil, or_false] at hn
      show n < 10; omega
    · show 1 * w_fi ws (n_v vs 0) 12 + ((-1) * v_iv (n_v vs 2) + 0) ≤ 8
      omega
  refine ⟨(fun _ h => (by cases h)), [], trivial, ?_, (fun _ h => (by cases h))⟩
  rw [List.append_nil]
  exact List.forall_mem_cons.mpr ⟨⟨show (20 : Nat) < 100 from by decide, nf0⟩, (fun _ h => (by cases h))⟩
def o_Ho_writeNumber_4 : or_T := (73, 16, [(0, (2, 0, 0, [12])), (2, (0, 0, 99999992, [])), (3, (2, 0, 0, [12])), (8, (0, 1, 6, [])), (9, (0, 7, 7, []))], [(7, [8, 9], [2]), (20, [3, 2, 8], [30, 1, 1, 1, 12, -1, 0, 0, -1, 0, 0]), (24, [0, 3], [])], [], [(0, 0, 99999999, [])], [(20, [3, 16], [30, 0, 1, 1, 12, -1, 0, 0]), (23, [16, 2, 8], [1, 1, -1, -1])], [], [])
theorem oo_Ho_writeNumber_4 {kA : Nat → ClassId} : or_ok kA GG o_Ho_writeNumber_4 := by
  intro A ta ws vs hD hth hl hk hds hf
  have hl : vs.length = 16 := hl
  have hk : ∀ q ∈ ([(0, (2, 0, 0, [12])), (2, (0, 0, 99999992, [])), (3, (2, 0, 0, [12])), (8, (0, 1, 6, [])), (9, (0, 7, 7, []))] : List (Nat × tv_T)), tv_ok ta q.2 (n_v vs q.1) := hk
  obtain ⟨t0, hk⟩ := List.forall_mem_cons.mp hk
  have t0 : tv_ok ta (2, 0, 0, [12]) (n_v vs 0) := t0
  have r0 : ta (v_ad (n_v vs 0)) = some 12 := tv_rg t0
  obtain ⟨t2, hk⟩ := List.forall_mem_cons.mp hk
  have t2 : tv_ok ta (0, 0, 99999992, []) (n_v vs 2) := t2
  have k2 : 0 ≤ v_iv (n_v vs 2) ∧ v_iv (n_v vs 2) ≤ 99999992 := tv_rng t2
  obtain ⟨t3, hk⟩ := List.forall_mem_cons.mp hk
  have t3 : tv_ok ta (2, 0, 0, [12]) (n_v vs 3) := t3
  have r3 : ta (v_ad (n_v vs 3)) = some 12 := tv_rg t3
  obtain ⟨t8, hk⟩ := List.forall_mem_cons.mp hk
  have t8 : tv_ok ta (0, 1, 6, []) (n_v vs 8) := t8
  have k8 : 1 ≤ v_iv (n_v vs 8) ∧ v_iv (n_v vs 8) ≤ 6 := tv_rng t8
  obtain ⟨t9, hk⟩ := List.forall_mem_cons.mp hk
  have t9 : tv_ok ta (0, 7, 7, []) (n_v vs 9) := t9
  have k9 : 7 ≤ v_iv (n_v vs 9) ∧ v_iv (n_v vs 9) ≤ 7 := tv_rng t9
  have hf : fc_ok [(7, [8, 9], [2]), (20, [3, 2, 8], [30, 1, 1, 1, 12, -1, 0, 0, -1, 0, 0]), (24, [0, 3], [])] ta ws vs := hf
  obtain ⟨f0, hf⟩ := fc_un (show (7 : Nat) < 100 from by decide) hf
  have f0 : v_iv (n_v vs 8) < v_iv (n_v vs 9) := f0
  obtain ⟨f1, hf⟩ := fc_un (show (20 : Nat) < 100 from by decide) hf
  have f1 : 1 * w_fi ws (n_v vs 3) 12 + ((-1) * v_iv (n_v vs 2) + ((-1) * v_iv (n_v vs 8) + 0)) ≤ 1 := f1
  obtain ⟨f2, hf⟩ := fc_un (show (24 : Nat) < 100 from by decide) hf
  have f2 : n_v vs 0 = n_v vs 3 := f2
  have q3 : n_v vs 3 = n_v vs 0 := f2.symm
  rw [q3] at f1
  have kz_0_12 : 0 ≤ w_fi ws (n_v vs 0) 12 ∧ w_fi ws (n_v vs 0) 12 ≤ 100000000 := tv_rng (th_fd hD hth r0 (g := GG_12) rfl (k := 12) (t := (0, 0, 100000000, [])) rfl rfl)
  have kv0 : 0 ≤ w_fi ws (n_v vs 0) 12 ∧ w_fi ws (n_v vs 0) 12 ≤ 100000000 := tv_rng (th_fd hD hth r0 (g := GG_12) rfl (k := 12) (t := (0, 0, 100000000, [])) rfl rfl)
  obtain ⟨x, ex, hx⟩ := iv_ex (ta := ta) (lo := 0) (hi := 99999999) (z := w_fi ws (n_v vs 0) 12) (by omega) (by omega) (by omega) (by omega)
  have ex2 : v_iv (Value.int x) = w_fi ws (n_v vs 0) 12 := ex
  have ex3 : 0 ≤ v_iv (Value.int x) ∧ v_iv (Value.int x) ≤ 99999999 := tv_rng hx
  have e_2 : n_v (vs ++ [Value.int x]) 2 = n_v vs 2 := n_v_old (by rw [hl]; decide)
  have e_3 : n_v (vs ++ [Value.int x]) 3 = n_v vs 3 := n_v_old (by rw [hl]; decide)
  have e_8 : n_v (vs ++ [Value.int x]) 8 = n_v vs 8 := n_v_old (by rw [hl]; decide)
  have e_16 : n_v (vs ++ [Value.int x]) 16 = Value.int x := n_v_new hl
  have nf0 : fc_1 (20, [3, 16], [30, 0, 1, 1, 12, -1, 0, 0]) ws (vs ++ [Value.int x]) := by
    refine ⟨fun n hn => ?_, ?_⟩
    · have hn : n ∈ [3, 16] := hn
      rw [List.length_append, hl]
      simp only [List.mem_cons, List.not_mem_nil, or_false] at hn
      show n < 16 + 1; omega
    · show 1 * w_fi ws (n_v (vs ++ [Value.int x]) 3) 12 + ((-1) * v_iv (n_v (vs ++ [Value.int x]) 16) + 0) ≤ 0
      rw [e_3]
      rw [e_16]
      rw [q3]
      omega
  have nf1 : fc_1 (23, [16, 2, 8], [1, 1, -1, -1]) ws (vs ++ [Value.int x]) := by
    refine ⟨fun n hn => ?_, ?_⟩
    · have hn : n ∈ [16, 2, 8] := hn
      rw [List.length_append, hl]
      simp only [List.mem_cons, List.not_mem_nil, or_false] at hn
      show n < 16 + 1; omega
    · show 1 * v_iv (n_v (vs ++ [Value.int x]) 16) + ((-1) * v_iv (n_v (vs ++ [Value.int x]) 2) + ((-1) * v_iv (n_v (vs ++ [Value.int x]) 8) + 0)) ≤ 1
      rw [e_2]
      rw [e_8]
      rw [e_16]
      omega
  exact ⟨(fun _ h => (by cases h)), [Value.int x], ag_one hx, List.forall_mem_cons.mpr ⟨⟨show (20 : Nat) < 100 from by decide, nf0⟩, List.forall_mem_cons.mpr ⟨⟨show (23 : Nat) < 100 from by decide, nf1⟩, (fun _ h => (by cases h))⟩⟩, (fun _ h => (by cases h))⟩
def o_Ho_writeNumber_5 : or_T := (25, 22, [(0, (2, 0, 0, [12])), (2, (0, 0, 99999992, [])), (3, (2, 0, 0, [12])), (8, (0, 1, 6, [])), (9, (0, 7, 7, [])), (16, (0, 0, 99999999, [])), (21, (0, 2, 7, []))], [(6, [21, 8], [1]), (23, [16, 2, 8], [1, 1, -1, -1]), (24, [0, 3], []), (20, [3, 16], [30, 1, 1, 1, 12, -1, 0, 0]), (102, [16], [261336857795280739939871698507597986398208, 12012]), (23, [16, 2, 8], [1, 1, -1, -1]), (7, [8, 9], [2])], [], [], [(20, [3, 2, 21], [30, 1, 1, 1, 12, -1, 0, 0, -1, 0, 0])], [], [(21, 8, 1, 1)])
theorem oo_Ho_writeNumber_5 {kA : Nat → ClassId} : or_ok kA GG o_Ho_writeNumber_5 := by
  intro A ta ws vs hD hth hl hk hds hf
  have hl : vs.length = 22 := hl
  have hk : ∀ q ∈ ([(0, (2, 0, 0, [12])), (2, (0, 0, 99999992, [])), (3, (2, 0, 0, [12])), (8, (0, 1, 6, [])), (9, (0, 7, 7, [])), (16, (0, 0, 99999999, [])), (21, (0, 2, 7, []))] : List (Nat × tv_T)), tv_ok ta q.2 (n_v vs q.1) := hk
  obtain ⟨t0, hk⟩ := List.forall_mem_cons.mp hk
  have t0 : tv_ok ta (2, 0, 0, [12]) (n_v vs 0) := t0
  have r0 : ta (v_ad (n_v vs 0)) = some 12 := tv_rg t0
  obtain ⟨t2, hk⟩ := List.forall_mem_cons.mp hk
  have t2 : tv_ok ta (0, 0, 99999992, []) (n_v vs 2) := t2
  have k2 : 0 ≤ v_iv (n_v vs 2) ∧ v_iv (n_v vs 2) ≤ 99999992 := tv_rng t2
  obtain ⟨t3, hk⟩ := List.forall_mem_cons.mp hk
  have t3 : tv_ok ta (2, 0, 0, [12]) (n_v vs 3) := t3
  have r3 : ta (v_ad (n_v vs 3)) = some 12 := tv_rg t3
  obtain ⟨t8, hk⟩ := List.forall_mem_cons.mp hk
  have t8 : tv_ok ta (0, 1, 6, []) (n_v vs 8) := t8
  have k8 : 1 ≤ v_iv (n_v vs 8) ∧ v_iv (n_v vs 8) ≤ 6 := tv_rng t8
  obtain ⟨t9, hk⟩ := List.forall_mem_cons.mp hk
  have t9 : tv_ok ta (0, 7, 7, []) (n_v vs 9) := t9
  have k9 : 7 ≤ v_iv (n_v vs 9) ∧ v_iv (n_v vs 9) ≤ 7 := tv_rng t9
  obtain ⟨t16, hk⟩ := List.forall_mem_cons.mp hk
  have t16 : tv_ok ta (0, 0, 99999999, []) (n_v vs 16) := t16
  have k16 : 0 ≤ v_iv (n_v vs 16) ∧ v_iv (n_v vs 16) ≤ 99999999 := tv_rng t16
  obtain ⟨t21, hk⟩ := List.forall_mem_cons.mp hk
  have t21 : tv_ok ta (0, 2, 7, []) (n_v vs 21) := t21
  have k21 : 2 ≤ v_iv (n_v vs 21) ∧ v_iv (n_v vs 21) ≤ 7 := tv_rng t21
  have hds : ∀ q ∈ ([(21, 8, 1, 1)] : List of_T), n_iv vs q.2.1 + q.2.2.1 ≤ n_iv vs q.1 ∧ n_iv vs q.1 ≤ n_iv vs q.2.1 + q.2.2.2 := hds
  obtain ⟨d0, hds⟩ := List.forall_mem_cons.mp hds
  have d0 : v_iv (n_v vs 8) + 1 ≤ v_iv (n_v vs 21) ∧ v_iv (n_v vs 21) ≤ v_iv (n_v vs 8) + 1 := d0
  have hf : fc_ok [(6, [21, 8], [1]), (23, [16, 2, 8], [1, 1, -1, -1]), (24, [0, 3], []), (20, [3, 16], [30, 1, 1, 1, 12, -1, 0, 0]), (102, [16], [261336857795280739939871698507597986398208, 12012]), (23, [16, 2, 8], [1, 1, -1, -1]), (7, [8, 9], [2])] ta ws vs := hf
  obtain ⟨f0, hf⟩ := fc_un (show (6 : Nat) < 100 from by decide) hf
  have f0 : v_iv (n_v vs 21) = v_iv (n_v vs 8) + 1 := f0
  obtain ⟨f1, hf⟩ := fc_un (show (23 : Nat) < 100 from by decide) hf
  have f1 : 1 * v_iv (n_v vs 16) + ((-1) * v_iv (n_v vs 2) + ((-1) * v_iv (n_v vs 8) + 0)) ≤ 1 := f1
  obtain ⟨f2, hf⟩ := fc_un (show (24 : Nat) < 100 from by decide) hf
  have f2 : n_v vs 0 = n_v vs 3 := f2
  obtain ⟨f3, hf⟩ := fc_un (show (20 : Nat) < 100 from by decide) hf
  have f3 : 1 * w_fi ws (n_v vs 3) 12 + ((-1) * v_iv (n_v vs 16) + 0) ≤ 1 := f3
  obtain ⟨ta1, w1, le1, ⟨_, s1⟩, hf⟩ := fc_us (show ¬ (102 : Nat) < 100 from by decide) hf
  obtain ⟨f5, hf⟩ := fc_un (show (23 : Nat) < 100 from by decide) hf
  have f5 : 1 * v_iv (n_v vs 16) + ((-1) * v_iv (n_v vs 2) + ((-1) * v_iv (n_v vs 8) + 0)) ≤ 1 := f5
  obtain ⟨f6, hf⟩ := fc_un (show (7 : Nat) < 100 from by decide) hf
  have f6 : v_iv (n_v vs 8) < v_iv (n_v vs 9) := f6
  have q3 : n_v vs 3 = n_v vs 0 := f2.symm
  rw [q3] at f3
  have kz_0_12 : 0 ≤ w_fi ws (n_v vs 0) 12 ∧ w_fi ws (n_v vs 0) 12 ≤ 100000000 := tv_rng (th_fd hD hth r0 (g := GG_12) rfl (k := 12) (t := (0, 0, 100000000, [])) rfl rfl)
  have nf0 : fc_1 (20, [3, 2, 21], [30, 1, 1, 1, 12, -1, 0, 0, -1, 0, 0]) ws (vs) := by
    refine ⟨fun n hn => ?_, ?_⟩
    · have hn : n ∈ [3, 2, 21] := hn
      rw [hl]
      simp only [List.mem_cons, List.not_mem_nil, or_false] at hn
      show n < 22; omega
    · show 1 * w_fi ws (n_v vs 3) 12 + ((-1) * v_iv (n_v vs 2) + ((-1) * v_iv (n_v vs 21) + 0)) ≤ 1
      rw [q3]
      omega
  refine ⟨(fun _ h => (by cases h)), [], trivial, ?_, (fun _ h => (by cases h))⟩
  rw [List.append_nil]
  exact List.forall_mem_cons.mpr ⟨⟨show (20 : Nat) < 100 from by decide, nf0⟩, (fun _ h => (by cases h))⟩
def o_Ho_writeNumber_6 : or_T := (73, 16, [(0, (2, 0, 0, [12])), (2, (0, 0, 99999992, [])), (3, (2, 0, 0, [12])), (8, (0, 0, 6, [])), (9, (0, 7, 7, []))], [(7, [8, 9], [2]), (20, [3, 2, 8], [30, 1, 1, 1, 12, -1, 0, 0, -1, 0, 0]), (24, [0, 3], [])], [], [(0, 0, 99999999, [])], [(20, [3, 16], [30, 0, 1, 1, 12, -1, 0, 0]), (23, [16, 2, 8], [1, 1, -1, -1])], [], [])
theorem oo_Ho_writeNumber_6 {kA : Nat → ClassId} : or_ok kA GG o_Ho_writeNumber_6 := by
  intro A ta ws vs hD hth hl hk hds hf
  have hl : vs.length = 16 := hl
  have hk : ∀ q ∈ ([(0, (2, 0, 0, [12])), (2, (0, 0, 99999992, [])), (3, (2, 0, 0, [12])), (8, (0, 0, 6, [])), (9, (0, 7, 7, []))] : List (Nat × tv_T)), tv_ok ta q.2 (n_v vs q.1) := hk
  obtain ⟨t0, hk⟩ := List.forall_mem_cons.mp hk
  have t0 : tv_ok ta (2, 0, 0, [12]) (n_v vs 0) := t0
  have r0 : ta (v_ad (n_v vs 0)) = some 12 := tv_rg t0
  obtain ⟨t2, hk⟩ := List.forall_mem_cons.mp hk
  have t2 : tv_ok ta (0, 0, 99999992, []) (n_v vs 2) := t2
  have k2 : 0 ≤ v_iv (n_v vs 2) ∧ v_iv (n_v vs 2) ≤ 99999992 := tv_rng t2
  obtain ⟨t3, hk⟩ := List.forall_mem_cons.mp hk
  have t3 : tv_ok ta (2, 0, 0, [12]) (n_v vs 3) := t3
  have r3 : ta (v_ad (n_v vs 3)) = some 12 := tv_rg t3
  obtain ⟨t8, hk⟩ := List.forall_mem_cons.mp hk
  have t8 : tv_ok ta (0, 0, 6, []) (n_v vs 8) := t8
  have k8 : 0 ≤ v_iv (n_v vs 8) ∧ v_iv (n_v vs 8) ≤ 6 := tv_rng t8
  obtain ⟨t9, hk⟩ := List.forall_mem_cons.mp hk
  have t9 : tv_ok ta (0, 7, 7, []) (n_v vs 9) := t9
  have k9 : 7 ≤ v_iv (n_v vs 9) ∧ v_iv (n_v vs 9) ≤ 7 := tv_rng t9
  have hf : fc_ok [(7, [8, 9], [2]), (20, [3, 2, 8], [30, 1, 1, 1, 12, -1, 0, 0, -1, 0, 0]), (24, [0, 3], [])] ta ws vs := hf
  obtain ⟨f0, hf⟩ := fc_un (show (7 : Nat) < 100 from by decide) hf
  have f0 : v_iv (n_v vs 8) < v_iv (n_v vs 9) := f0
  obtain ⟨f1, hf⟩ := fc_un (show (20 : Nat) < 100 from by decide) hf
  have f1 : 1 * w_fi ws (n_v vs 3) 12 + ((-1) * v_iv (n_v vs 2) + ((-1) * v_iv (n_v vs 8) + 0)) ≤ 1 := f1
  obtain ⟨f2, hf⟩ := fc_un (show (24 : Nat) < 100 from by decide) hf
  have f2 : n_v vs 0 = n_v vs 3 := f2
  have q3 : n_v vs 3 = n_v vs 0 := f2.symm
  rw [q3] at f1
  have kz_0_12 : 0 ≤ w_fi ws (n_v vs 0) 12 ∧ w_fi ws (n_v vs 0) 12 ≤ 100000000 := tv_rng (th_fd hD hth r0 (g := GG_12) rfl (k := 12) (t := (0, 0, 100000000, [])) rfl rfl)
  have kv0 : 0 ≤ w_fi ws (n_v vs 0) 12 ∧ w_fi ws (n_v vs 0) 12 ≤ 100000000 := tv_rng (th_fd hD hth r0 (g := GG_12) rfl (k := 12) (t := (0, 0, 100000000, [])) rfl rfl)
  obtain ⟨x, ex, hx⟩ := iv_ex (ta := ta) (lo := 0) (hi := 99999999) (z := w_fi ws (n_v vs 0) 12) (by omega) (by omega) (by omega) (by omega)
  have ex2 : v_iv (Value.int x) = w_fi ws (n_v vs 0) 12 := ex
  have ex3 : 0 ≤ v_iv (Value.int x) ∧ v_iv (Value.int x) ≤ 99999999 := tv_rng hx
  have e_2 : n_v (vs ++ [Value.int x]) 2 = n_v vs 2 := n_v_old (by rw [hl]; decide)
  have e_3 : n_v (vs ++ [Value.int x]) 3 = n_v vs 3 := n_v_old (by rw [hl]; decide)
  have e_8 : n_v (vs ++ [Value.int x]) 8 = n_v vs 8 := n_v_old (by rw [hl]; decide)
  have e_16 : n_v (vs ++ [Value.int x]) 16 = Value.int x := n_v_new hl
  have nf0 : fc_1 (20, [3, 16], [30, 0, 1, 1, 12, -1, 0, 0]) ws (vs ++ [Value.int x]) := by
    refine ⟨fun n hn => ?_, ?_⟩
    · have hn : n ∈ [3, 16] := hn
      rw [List.length_append, hl]
      simp only [List.mem_cons, List.not_mem_nil, or_false] at hn
      show n < 16 + 1; omega
    · show 1 * w_fi ws (n_v (vs ++ [Value.int x]) 3) 12 + ((-1) * v_iv (n_v (vs ++ [Value.int x]) 16) + 0) ≤ 0
      rw [e_3]
      rw [e_16]
      rw [q3]
      omega
  have nf1 : fc_1 (23, [16, 2, 8], [1, 1, -1, -1]) ws (vs ++ [Value.int x]) := by
    refine ⟨fun n hn => ?_, ?_⟩
    · have hn : n ∈ [16, 2, 8] := hn
      rw [List.length_append, hl]
      simp only [List.mem_cons, List.not_mem_nil, or_false] at hn
      show n < 16 + 1; omega
    · show 1 * v_iv (n_v (vs ++ [Value.int x]) 16) + ((-1) * v_iv (n_v (vs ++ [Value.int x]) 2) + ((-1) * v_iv (n_v (vs ++ [Value.int x]) 8) + 0)) ≤ 1
      rw [e_2]
      rw [e_8]
      rw [e_16]
      omega
  exact ⟨(fun _ h => (by cases h)), [Value.int x], ag_one hx, List.forall_mem_cons.mpr ⟨⟨show (20 : Nat) < 100 from by decide, nf0⟩, List.forall_mem_cons.mpr ⟨⟨show (23 : Nat) < 100 from by decide, nf1⟩, (fun _ h => (by cases h))⟩⟩, (fun _ h => (by cases h))⟩
def o_Ho_writeNumber_7 : or_T := (25, 22, [(0, (2, 0, 0, [12])), (2, (0, 0, 99999992, [])), (3, (2, 0, 0, [12])), (8, (0, 0, 6, [])), (9, (0, 7, 7, [])), (16, (0, 0, 99999999, [])), (21, (0, 1, 7, []))], [(6, [21, 8], [1]), (23, [16, 2, 8], [1, 1, -1, -1]), (24, [0, 3], []), (20, [3, 16], [30, 1, 1, 1, 12, -1, 0, 0]), (102, [16], [261336857795280739939871698507597986398208, 12012]), (23, [16, 2, 8], [1, 1, -1, -1]), (7, [8, 9], [2])], [], [], [(20, [3, 2, 21], [30, 1, 1, 1, 12, -1, 0, 0, -1, 0, 0])], [], [(21, 8, 1, 1)])
theorem oo_Ho_writeNumber_7 {kA : Nat → ClassId} : or_ok kA GG o_Ho_writeNumber_7 := by
  intro A ta ws vs hD hth hl hk hds hf
  have hl : vs.length = 22 := hl
  have hk : ∀ q ∈ ([(0, (2, 0, 0, [12])), (2, (0, 0, 99999992, [])), (3, (2, 0, 0, [12])), (8, (0, 0, 6, [])), (9, (0, 7, 7, [])), (16, (0, 0, 99999999, [])), (21, (0, 1, 7, []))] : List (Nat × tv_T)), tv_ok ta q.2 (n_v vs q.1) := hk
  obtain ⟨t0, hk⟩ := List.forall_mem_cons.mp hk
  have t0 : tv_ok ta (2, 0, 0, [12]) (n_v vs 0) := t0
  have r0 : ta (v_ad (n_v vs 0)) = some 12 := tv_rg t0
  obtain ⟨t2, hk⟩ := List.forall_mem_cons.mp hk
  have t2 : tv_ok ta (0, 0, 99999992, []) (n_v vs 2) := t2
  have k2 : 0 ≤ v_iv (n_v vs 2) ∧ v_iv (n_v vs 2) ≤ 99999992 := tv_rng t2
  obtain ⟨t3, hk⟩ := List.forall_mem_cons.mp hk
  have t3 : tv_ok ta (2, 0, 0, [12]) (n_v vs 3) := t3
  have r3 : ta (v_ad (n_v vs 3)) = some 12 := tv_rg t3
  obtain ⟨t8, hk⟩ := List.forall_mem_cons.mp hk
  have t8 : tv_ok ta (0, 0, 6, []) (n_v vs 8) := t8
  have k8 : 0 ≤ v_iv (n_v vs 8) ∧ v_iv (n_v vs 8) ≤ 6 := tv_rng t8
  obtain ⟨t9, hk⟩ := List.forall_mem_cons.mp hk
  have t9 : tv_ok ta (0, 7, 7, []) (n_v vs 9) := t9
  have k9 : 7 ≤ v_iv (n_v vs 9) ∧ v_iv (n_v vs 9) ≤ 7 := tv_rng t9
  obtain ⟨t16, hk⟩ := List.forall_mem_cons.mp hk
  have t16 : tv_ok ta (0, 0, 99999999, []) (n_v vs 16) := t16
  have k16 : 0 ≤ v_iv (n_v vs 16) ∧ v_iv (n_v vs 16) ≤ 99999999 := tv_rng t16
  obtain ⟨t21, hk⟩ := List.forall_mem_cons.mp hk
  have t21 : tv_ok ta (0, 1, 7, []) (n_v vs 21) := t21
  have k21 : 1 ≤ v_iv (n_v vs 21) ∧ v_iv (n_v vs 21) ≤ 7 := tv_rng t21
  have hds : ∀ q ∈ ([(21, 8, 1, 1)] : List of_T), n_iv vs q.2.1 + q.2.2.1 ≤ n_iv vs q.1 ∧ n_iv vs q.1 ≤ n_iv vs q.2.1 + q.2.2.2 := hds
  obtain ⟨d0, hds⟩ := List.forall_mem_cons.mp hds
  have d0 : v_iv (n_v vs 8) + 1 ≤ v_iv (n_v vs 21) ∧ v_iv (n_v vs 21) ≤ v_iv (n_v vs 8) + 1 := d0
  have hf : fc_ok [(6, [21, 8], [1]), (23, [16, 2, 8], [1, 1, -1, -1]), (24, [0, 3], []), (20, [3, 16], [30, 1, 1, 1, 12, -1, 0, 0]), (102, [16], [261336857795280739939871698507597986398208, 12012]), (23, [16, 2, 8], [1, 1, -1, -1]), (7, [8, 9], [2])] ta ws vs := hf
  obtain ⟨f0, hf⟩ := fc_un (show (6 : Nat) < 100 from by decide) hf
  have f0 : v_iv (n_v vs 21) = v_iv (n_v vs 8) + 1 := f0
  obtain ⟨f1, hf⟩ := fc_un (show (23 : Nat) < 100 from by decide) hf
  have f1 : 1 * v_iv (n_v vs 16) + ((-1) * v_iv (n_v vs 2) + ((-1) * v_iv (n_v vs 8) + 0)) ≤ 1 := f1
  obtain ⟨f2, hf⟩ := fc_un (show (24 : Nat) < 100 from by decide) hf
  have f2 : n_v vs 0 = n_v vs 3 := f2
  obtain ⟨f3, hf⟩ := fc_un (show (20 : Nat) < 100 from by decide) hf
  have f3 : 1 * w_fi ws (n_v vs 3) 12 + ((-1) * v_iv (n_v vs 16) + 0) ≤ 1 := f3
  obtain ⟨ta1, w1, le1, ⟨_, s1⟩, hf⟩ := fc_us (show ¬ (102 : Nat) < 100 from by decide) hf
  obtain ⟨f5, hf⟩ := fc_un (show (23 : Nat) < 100 from by decide) hf
  have f5 : 1 * v_iv (n_v vs 16) + ((-1) * v_iv (n_v vs 2) + ((-1) * v_iv (n_v vs 8) + 0)) ≤ 1 := f5
  obtain ⟨f6, hf⟩ := fc_un (show (7 : Nat) < 100 from by decide) hf
  have f6 : v_iv (n_v vs 8) < v_iv (n_v vs 9) := f6
  have q3 : n_v vs 3 = n_v vs 0 := f2.symm
  rw [q3] at f3
  have kz_0_12 : 0 ≤ w_fi ws (n_v vs 0) 12 ∧ w_fi ws (n_v vs 0) 12 ≤ 100000000 := tv_rng (th_fd hD hth r0 (g := GG_12) rfl (k := 12) (t := (0, 0, 100000000, [])) rfl rfl)
  have nf0 : fc_1 (20, [3, 2, 21], [30, 1, 1, 1, 12, -1, 0, 0, -1, 0, 0]) ws (vs) := by
    refine ⟨fun n hn => ?_, ?_⟩
    · have hn : n ∈ [3, 2, 21] := hn
      rw [hl]
      simp only [List.mem_cons, List.not_mem_nil, or_false] at hn
      show n < 22; omega
    · show 1 * w_fi ws (n_v vs 3) 12 + ((-1) * v_iv (n_v vs 2) + ((-1) * v_iv (n_v vs 21) + 0)) ≤ 1
      rw [q3]
      omega
  refine ⟨(fun _ h => (by cases h)), [], trivial, ?_, (fun _ h => (by cases h))⟩
  rw [List.append_nil]
  exact List.forall_mem_cons.mpr ⟨⟨show (20 : Nat) < 100 from by decide, nf0⟩, (fun _ h => (by cases h))⟩
def o_Ho_writeNumber_8 : or_T := (25, 20, [(0, (2, 0, 0, [12])), (2, (0, 0, 99999992, [])), (3, (2, 0, 0, [12])), (8, (0, 0, 5, [])), (9, (0, 7, 7, [])), (13, (0, 6, 6, [])), (19, (0, 1, 6, []))], [(6, [19, 8], [1]), (7, [8, 13], [1]), (7, [8, 9], [2]), (20, [3, 2, 8], [30, 1, 1, 1, 12, -1, 0, 0, -1, 0, 0]), (24, [0, 3], [])], [], [], [(20, [3, 2, 19], [30, 1, 1, 1, 12, -1, 0, 0, -1, 0, 0])], [], [(19, 8, 1, 1)])
theorem oo_Ho_writeNumber_8 {kA : Nat → ClassId} : or_ok kA GG o_Ho_writeNumber_8 := by
  intro A ta ws vs hD hth hl hk hds hf
  have hl : vs.length = 20 := hl
  have hk : ∀ q ∈ ([(0, (2, 0, 0, [12])), (2, (0, 0, 99999992, [])), (3, (2, 0, 0, [12])), (8, (0, 0, 5, [])), (9, (0, 7, 7, [])), (13, (0, 6, 6, [])), (19, (0, 1, 6, []))] : List (Nat × tv_T)), tv_ok ta q.2 (n_v vs q.1) := hk
  obtain ⟨t0, hk⟩ := List.forall_mem_cons.mp hk
  have t0 : tv_ok ta (2, 0, 0, [12]) (n_v vs 0) := t0
  have r0 : ta (v_ad (n_v vs 0)) = some 12 := tv_rg t0
  obtain ⟨t2, hk⟩ := List.forall_mem_cons.mp hk
  have t2 : tv_ok ta (0, 0, 99999992, []) (n_v vs 2) := t2
  have k2 : 0 ≤ v_iv (n_v vs 2) ∧ v_iv (n_v vs 2) ≤ 99999992 := tv_rng t2
  obtain ⟨t3, hk⟩ := List.forall_mem_cons.mp hk
  have t3 : tv_ok ta (2, 0, 0, [12]) (n_v vs 3) := t3
  have r3 : ta (v_ad (n_v vs 3)) = some 12 := tv_rg t3
  obtain ⟨t8, hk⟩ := List.forall_mem_cons.mp hk
  have t8 : tv_ok ta (0, 0, 5, []) (n_v vs 8) := t8
  have k8 : 0 ≤ v_iv (n_v vs 8) ∧ v_iv (n_v vs 8) ≤ 5 := tv_rng t8
  obtain ⟨t9, hk⟩ := List.forall_mem_cons.mp hk
  have t9 : tv_ok ta (0, 7, 7, []) (n_v vs 9) := t9
  have k9 : 7 ≤ v_iv (n_v vs 9) ∧ v_iv (n_v vs 9) ≤ 7 := tv_rng t9
  obtain ⟨t13, hk⟩ := List.forall_mem_cons.mp hk
  have t13 : tv_ok ta (0, 6, 6, []) (n_v vs 13) := t13
  have k13 : 6 ≤ v_iv (n_v vs 13) ∧ v_iv (n_v vs 13) ≤ 6 := tv_rng t13
  obtain ⟨t19, hk⟩ := List.forall_mem_cons.mp hk
  have t19 : tv_ok ta (0, 1, 6, []) (n_v vs 19) := t19
  have k19 : 1 ≤ v_iv (n_v vs 19) ∧ v_iv (n_v vs 19) ≤ 6 := tv_rng t19
  have hds : ∀ q ∈ ([(19, 8, 1, 1)] : List of_T), n_iv vs q.2.1 + q.2.2.1 ≤ n_iv vs q.1 ∧ n_iv vs q.1 ≤ n_iv vs q.2.1 + q.2.2.2 := hds
  obtain ⟨d0, hds⟩ := List.forall_mem_cons.mp hds
  have d0 : v_iv (n_v vs 8) + 1 ≤ v_iv (n_v vs 19) ∧ v_iv (n_v vs 19) ≤ v_iv (n_v vs 8) + 1 := d0
  have hf : fc_ok [(6, [19, 8], [1]), (7, [8, 13], [1]), (7, [8, 9], [2]), (20, [3, 2, 8], [30, 1, 1, 1, 12, -1, 0, 0, -1, 0, 0]), (24, [0, 3], [])] ta ws vs := hf
  obtain ⟨f0, hf⟩ := fc_un (show (6 : Nat) < 100 from by decide) hf
  have f0 : v_iv (n_v vs 19) = v_iv (n_v vs 8) + 1 := f0
  obtain ⟨f1, hf⟩ := fc_un (show (7 : Nat) < 100 from by decide) hf
  have f1 : v_iv (n_v vs 8) ≠ v_iv (n_v vs 13) := f1
  obtain ⟨f2, hf⟩ := fc_un (show (7 : Nat) < 100 from by decide) hf
  have f2 : v_iv (n_v vs 8) < v_iv (n_v vs 9) := f2
  obtain ⟨f3, hf⟩ := fc_un (show (20 : Nat) < 100 from by decide) hf
  have f3 : 1 * w_fi ws (n_v vs 3) 12 + ((-1) * v_iv (n_v vs 2) + ((-1) * v_iv (n_v vs 8) + 0)) ≤ 1 := f3
  obtain ⟨f4, hf⟩ := fc_un (show (24 : Nat) < 100 from by decide) hf
  have f4 : n_v vs 0 = n_v vs 3 := f4
  have q3 : n_v vs 3 = n_v vs 0 := f4.symm
  rw [q3] at f3
  have kz_0_12 : 0 ≤ w_fi ws (n_v vs 0) 12 ∧ w_fi ws (n_v vs 0) 12 ≤ 100000000 := tv_rng (th_fd hD hth r0 (g := GG_12) rfl (k := 12) (t := (0, 0, 100000000, [])) rfl rfl)
  have nf0 : fc_1 (20, [3, 2, 19], [30, 1, 1, 1, 12, -1, 0, 0, -1, 0, 0]) ws (vs) := by
    refine ⟨fun n hn => ?_, ?_⟩
    · have hn : n ∈ [3, 2, 19] := hn
      rw [hl]
      simp only [List.mem_cons, List.not_mem_nil, or_false] at hn
      show n < 20; omega
    · show 1 * w_fi ws (n_v vs 3) 12 + ((-1) * v_iv (n_v vs 2) + ((-1) * v_iv (n_v vs 19) + 0)) ≤ 1
      rw [q3]
      omega
  refine ⟨(fun _ h => (by cases h)), [], trivial, ?_, (fun _ h => (by cases h))⟩
  rw [List.append_nil]
  exact List.forall_mem_cons.mpr ⟨⟨show (20 : Nat) < 100 from by decide, nf0⟩, (fun _ h => (by cases h))⟩
def o_Ho_writeNumber_9 : or_T := (73, 17, [(0, (2, 0, 0, [12])), (2, (0, 0, 99999992, [])), (3, (2, 0, 0, [12])), (8, (0, 6, 6, [])), (9, (0, 7, 7, [])), (13, (0, 6, 6, []))], [(7, [8, 13], [0]), (7, [8, 9], [2]), (20, [3, 2, 8], [30, 1, 1, 1, 12, -1, 0, 0, -1, 0, 0]), (24, [0, 3], [])], [], [(0, 0, 99999999, [])], [(20, [3, 17], [30, 0, 1, 1, 12, -1, 0, 0]), (23, [17, 2, 8], [1, 1, -1, -1])], [], [])
theorem oo_Ho_writeNumber_9 {kA : Nat → ClassId} : or_ok kA GG o_Ho_writeNumber_9 := by
  intro A ta ws vs hD hth hl hk hds hf
  have hl : vs.length = 17 := hl
  have hk : ∀ q ∈ ([(0, (2, 0, 0, [12])), (2, (0, 0, 99999992, [])), (3, (2, 0, 0, [12])), (8, (0, 6, 6, [])), (9, (0, 7, 7, [])), (13, (0, 6, 6, []))] : List (Nat × tv_T)), tv_ok ta q.2 (n_v vs q.1) := hk
  obtain ⟨t0, hk⟩ := List.forall_mem_cons.mp hk
  have t0 : tv_ok ta (2, 0, 0, [12]) (n_v vs 0) := t0
  have r0 : ta (v_ad (n_v vs 0)) = some 12 := tv_rg t0
  obtain ⟨t2, hk⟩ := List.forall_mem_cons.mp hk
  have t2 : tv_ok ta (0, 0, 99999992, []) (n_v vs 2) := t2
  have k2 : 0 ≤ v_iv (n_v vs 2) ∧ v_iv (n_v vs 2) ≤ 99999992 := tv_rng t2
  obtain ⟨t3, hk⟩ := List.forall_mem_cons.mp hk
  have t3 : tv_ok ta (2, 0, 0, [12]) (n_v vs 3) := t3
  have r3 : ta (v_ad (n_v vs 3)) = some 12 := tv_rg t3
  obtain ⟨t8, hk⟩ := List.forall_mem_cons.mp hk
  have t8 : tv_ok ta (0, 6, 6, []) (n_v vs 8) := t8
  have k8 : 6 ≤ v_iv (n_v vs 8) ∧ v_iv (n_v vs 8) ≤ 6 := tv_rng t8
  obtain ⟨t9, hk⟩ := List.forall_mem_cons.mp hk
  have t9 : tv_ok ta (0, 7, 7, []) (n_v vs 9) := t9
  have k9 : 7 ≤ v_iv (n_v vs 9) ∧ v_iv (n_v vs 9) ≤ 7 := tv_rng t9
  obtain ⟨t13, hk⟩ := List.forall_mem_cons.mp hk
  have t13 : tv_ok ta (0, 6, 6, []) (n_v vs 13) := t13
  have k13 : 6 ≤ v_iv (n_v vs 13) ∧ v_iv (n_v vs 13) ≤ 6 := tv_rng t13
  have hf : fc_ok [(7, [8, 13], [0]), (7, [8, 9], [2]), (20, [3, 2, 8], [30, 1, 1, 1, 12, -1, 0, 0, -1, 0, 0]), (24, [0, 3], [])] ta ws vs := hf
  obtain ⟨f0, hf⟩ := fc_un (show (7 : Nat) < 100 from by decide) hf
  have f0 : v_iv (n_v vs 8) = v_iv (n_v vs 13) := f0
  obtain ⟨f1, hf⟩ := fc_un (show (7 : Nat) < 100 from by decide) hf
  have f1 : v_iv (n_v vs 8) < v_iv (n_v vs 9) := f1
  obtain ⟨f2, hf⟩ := fc_un (show (20 : Nat) < 100 from by decide) hf
  have f2 : 1 * w_fi ws (n_v vs 3) 12 + ((-1) * v_iv (n_v vs 2) + ((-1) * v_iv (n_v vs 8) + 0)) ≤ 1 := f2
  obtain ⟨f3, hf⟩ := fc_un (show (24 : Nat) < 100 from by decide) hf
  have f3 : n_v vs 0 = n_v vs 3 := f3
  have q3 : n_v vs 3 = n_v vs 0 := f3.symm
  rw [q3] at f2
  have kz_0_12 : 0 ≤ w_fi ws (n_v vs 0) 12 ∧ w_fi ws (n_v vs 0) 12 ≤ 100000000 := tv_rng (th_fd hD hth r0 (g := GG_12) rfl (k := 12) (t := (0, 0, 100000000, [])) rfl rfl)
  have kv0 : 0 ≤ w_fi ws (n_v vs 0) 12 ∧ w_fi ws (n_v vs 0) 12 ≤ 100000000 := tv_rng (th_fd hD hth r0 (g := GG_12) rfl (k := 12) (t := (0, 0, 100000000, [])) rfl rfl)
  obtain ⟨x, ex, hx⟩ := iv_ex (ta := ta) (lo := 0) (hi := 99999999) (z := w_fi ws (n_v vs 0) 12) (by omega) (by omega) (by omega) (by omega)
  have ex2 : v_iv (Value.int x) = w_fi ws (n_v vs 0) 12 := ex
  have ex3 : 0 ≤ v_iv (Value.int x) ∧ v_iv (Value.int x) ≤ 99999999 := tv_rng hx
  have e_2 : n_v (vs ++ [Value.int x]) 2 = n_v vs 2 := n_v_old (by rw [hl]; decide)
  have e_3 : n_v (vs ++ [Value.int x]) 3 = n_v vs 3 := n_v_old (by rw [hl]; decide)
  have e_8 : n_v (vs ++ [Value.int x]) 8 = n_v vs 8 := n_v_old (by rw [hl]; decide)
  have e_17 : n_v (vs ++ [Value.int x]) 17 = Value.int x := n_v_new hl
  have nf0 : fc_1 (20, [3, 17], [30, 0, 1, 1, 12, -1, 0, 0]) ws (vs ++ [Value.int x]) := by
    refine ⟨fun n hn => ?_, ?_⟩
    · have hn : n ∈ [3, 17] := hn
      rw [List.length_append, hl]
      simp only [List.mem_cons, List.not_mem_nil, or_false] at hn
      show n < 17 + 1; omega
    · show 1 * w_fi ws (n_v (vs ++ [Value.int x]) 3) 12 + ((-1) * v_iv (n_v (vs ++ [Value.int x]) 17) + 0) ≤ 0
      rw [e_3]
      rw [e_17]
      rw [q3]
      omega
  have nf1 : fc_1 (23, [17, 2, 8], [1, 1, -1, -1]) ws (vs ++ [Value.int x]) := by
    refine ⟨fun n hn => ?_, ?_⟩
    · have hn : n ∈ [17, 2, 8] := hn
      rw [List.length_append, hl]
      simp only [List.mem_cons, List.not_mem_nil, or_false] at hn
      show n < 17 + 1; omega
    · show 1 * v_iv (n_v (vs ++ [Value.int x]) 17) + ((-1) * v_iv (n_v (vs ++ [Value.int x]) 2) + ((-1) * v_iv (n_v (vs ++ [Value.int x]) 8) + 0)) ≤ 1
      rw [e_2]
      rw [e_8]
      rw [e_17]
      omega
  exact ⟨(fun _ h => (by cases h)), [Value.int x], ag_one hx, List.forall_mem_cons.mpr ⟨⟨show (20 : Nat) < 100 from by decide, nf0⟩, List.forall_mem_cons.mpr ⟨⟨show (23 : Nat) < 100 from by decide, nf1⟩, (fun _ h => (by cases h))⟩⟩, (fun _ h => (by cases h))⟩
def o_Ho_writeNumber_10 : or_T := (25, 23, [(0, (2, 0, 0, [12])), (2, (0, 0, 99999992, [])), (3, (2, 0, 0, [12])), (8, (0, 6, 6, [])), (9, (0, 7, 7, [])), (13, (0, 6, 6, [])), (17, (0, 0, 99999999, [])), (22, (0, 7, 7, []))], [(6, [22, 8], [1]), (23, [17, 2, 8], [1, 1, -1, -1]), (24, [0, 3], []), (20, [3, 17], [30, 1, 1, 1, 12, -1, 0, 0]), (102, [17], [261336857795280739939871698507597986398208, 12012]), (23, [17, 2, 8], [1, 1, -1, -1]), (7, [8, 13], [0]), (7, [8, 9], [2])], [], [], [(20, [3, 2, 22], [30, 1, 1, 1, 12, -1, 0, 0, -1, 0, 0])], [], [(22, 8, 1, 1)])
theorem oo_Ho_writeNumber_10 {kA : Nat → ClassId} : or_ok kA GG o_Ho_writeNumber_10 := by
  intro A ta ws vs hD hth hl hk hds hf
  have hl : vs.length = 23 := hl
  have hk : ∀ q ∈ ([(0, (2, 0, 0, [12])), (2, (0, 0, 99999992, [])), (3, (2, 0, 0, [12])), (8, (0, 6, 6, [])), (9, (0, 7, 7, [])), (13, (0, 6, 6, [])), (17, (0, 0, 99999999, [])), (22, (0, 7, 7, []))] : List (Nat × tv_T)), tv_ok ta q.2 (n_v vs q.1) := hk
  obtain ⟨t0, hk⟩ := List.forall_mem_cons.mp hk
  have t0 : tv_ok ta (2, 0, 0, [12]) (n_v vs 0) := t0
  have r0 : ta (v_ad (n_v vs 0)) = some 12 := tv_rg t0
  obtain ⟨t2, hk⟩ := List.forall_mem_cons.mp hk
  have t2 : tv_ok ta (0, 0, 99999992, []) (n_v vs 2) := t2
  have k2 : 0 ≤ v_iv (n_v vs 2) ∧ v_iv (n_v vs 2) ≤ 99999992 := tv_rng t2
  obtain ⟨t3, hk⟩ := List.forall_mem_cons.mp hk
  have t3 : tv_ok ta (2, 0, 0, [12]) (n_v vs 3) := t3
  have r3 : ta (v_ad (n_v vs 3)) = some 12 := tv_rg t3
  obtain ⟨t8, hk⟩ := List.forall_mem_cons.mp hk
  have t8 : tv_ok ta (0, 6, 6, []) (n_v vs 8) := t8
  have k8 : 6 ≤ v_iv (n_v vs 8) ∧ v_iv (n_v vs 8) ≤ 6 := tv_rng t8
  obtain ⟨t9, hk⟩ := List.forall_mem_cons.mp hk
  have t9 : tv_ok ta (0, 7, 7, []) (n_v vs 9) := t9
  have k9 : 7 ≤ v_iv (n_v vs 9) ∧ v_iv (n_v vs 9) ≤ 7 := tv_rng t9
  obtain ⟨t13, hk⟩ := List.forall_mem_cons.mp hk
  have t13 : tv_ok ta (0, 6, 6, []) (n_v vs 13) := t13
  have k13 : 6 ≤ v_iv (n_v vs 13) ∧ v_iv (n_v vs 13) ≤ 6 := tv_rng t13
  obtain ⟨t17, hk⟩ := List.forall_mem_cons.mp hk
  have t17 : tv_ok ta (0, 0, 99999999, []) (n_v vs 17) := t17
  have k17 : 0 ≤ v_iv (n_v vs 17) ∧ v_iv (n_v vs 17) ≤ 99999999 := tv_rng t17
  obtain ⟨t22, hk⟩ := List.forall_mem_cons.mp hk
  have t22 : tv_ok ta (0, 7, 7, []) (n_v vs 22) := t22
  have k22 : 7 ≤ v_iv (n_v vs 22) ∧ v_iv (n_v vs 22) ≤ 7 := tv_rng t22
  have hds : ∀ q ∈ ([(22, 8, 1, 1)] : List of_T), n_iv vs q.2.1 + q.2.2.1 ≤ n_iv vs q.1 ∧ n_iv vs q.1 ≤ n_iv vs q.2.1 + q.2.2.2 := hds
  obtain ⟨d0, hds⟩ := List.forall_mem_cons.mp hds
  have d0 : v_iv (n_v vs 8) + 1 ≤ v_iv (n_v vs 22) ∧ v_iv (n_v vs 22) ≤ v_iv (n_v vs 8) + 1 := d0
  have hf : fc_ok [(6, [22, 8], [1]), (23, [17, 2, 8], [1, 1, -1, -1]), (24, [0, 3], []), (20, [3, 17], [30, 1, 1, 1, 12, -1, 0, 0]), (102, [17], [261336857795280739939871698507597986398208, 12012]), (23, [17, 2, 8], [1, 1, -1, -1]), (7, [8, 13], [0]), (7, [8, 9], [2])] ta ws vs := hf
  obtain ⟨f0, hf⟩ := fc_un (show (6 : Nat) < 100 from by decide) hf
  have f0 : v_iv (n_v vs 22) = v_iv (n_v vs 8) + 1 := f0
  obtain ⟨f1, hf⟩ := fc_un (show (23 : Nat) < 100 from by decide) hf
  have f1 : 1 * v_iv (n_v vs 17) + ((-1) * v_iv (n_v vs 2) + ((-1) * v_iv (n_v vs 8) + 0)) ≤ 1 := f1
  obtain ⟨f2, hf⟩ := fc_un (show (24 : Nat) < 100 from by decide) hf
  have f2 : n_v vs 0 = n_v vs 3 := f2
  obtain ⟨f3, hf⟩ := fc_un (show (20 : Nat) < 100 from by decide) hf
  have f3 : 1 * w_fi ws (n_v vs 3) 12 + ((-1) * v_iv (n_v vs 17) + 0) ≤ 1 := f3
  obtain ⟨ta1, w1, le1, ⟨_, s1⟩, hf⟩ := fc_us (show ¬ (102 : Nat) < 100 from by decide) hf
  obtain ⟨f5, hf⟩ := fc_un (show (23 : Nat) < 100 from by decide) hf
  have f5 : 1 * v_iv (n_v vs 17) + ((-1) * v_iv (n_v vs 2) + ((-1) * v_iv (n_v vs 8) + 0)) ≤ 1 := f5
  obtain ⟨f6, hf⟩ := fc_un (show (7 : Nat) < 100 from by decide) hf
  have f6 : v_iv (n_v vs 8) = v_iv (n_v vs 13) := f6
  obtain ⟨f7, hf⟩ := fc_un (show (7 : Nat) < 100 from by decide) hf
  have f7 : v_iv (n_v vs 8) < v_iv (n_v vs 9) := f7
  have q3 : n_v vs 3 = n_v vs 0 := f2.symm
  rw [q3] at f3
  have kz_0_12 : 0 ≤ w_fi ws (n_v vs 0) 12 ∧ w_fi ws (n_v vs 0) 12 ≤ 100000000 := tv_rng (th_fd hD hth r0 (g := GG_12) rfl (k := 12) (t := (0, 0, 100000000, [])) rfl rfl)
  have nf0 : fc_1 (20, [3, 2, 22], [30, 1, 1, 1, 12, -1, 0, 0, -1, 0, 0]) ws (vs) := by
    refine ⟨fun n hn => ?_, ?_⟩
    · have hn : n ∈ [3, 2, 22] := hn
      rw [hl]
      simp only [List.mem_cons, List.not_mem_nil, or_false] at hn
      show n < 23; omega
    · show 1 * w_fi ws (n_v vs 3) 12 + ((-1) * v_iv (n_v vs 2) + ((-1) * v_iv (n_v vs 22) + 0)) ≤ 1
      rw [q3]
      omega
  refine ⟨(fun _ h => (by cases h)), [], trivial, ?_, (fun _ h => (by cases h))⟩
  rw [List.append_nil]
  exact List.forall_mem_cons.mpr ⟨⟨show (20 : Nat) < 100 from by decide, nf0⟩, (fun _ h => (by cases h))⟩
def n_Ho_writeNumber_an : List an_T := [(25, [(0, (2, 0, 0, [12])), (1, (0, -2147483648, 2147483647, [])), (2, (0, -2147483648, 2147483647, [])), (3, (0, 0, 1, [])), (4, (0, 1, 1000000, [])), (5, (0, 0, 7, []))], [], (0, 0), [(0, 0, 99975), (1, 8, 7), (0, 0, 100000)], [(1, 4, -1000000000000, 0), (4, 1, -1000000000000, 0), (6, 1, -1000000000000, 2147483649), (6, 2, -1000000000000, 1), (6, 4, -1000000000000, 2147483649), (6, 5, -1000000000000, 2147483649), (6, 7, -1000000000000, 0), (6, 8, -1000000000000, 0), (7, 1, -1000000000000, 2148483648), (7, 2, -1000000000000, 1000000), (7, 4, -1000000000000, 2148483648), (7, 5, -1000000000000, 2148483648), (7, 6, -1000000000000, 1000000), (7, 8, -1000000000000, 1000000)], [], [(2, 0, 0, [12]), (0, -2147483648, 2147483647, []), (0, 0, 99999992, [])], 0, [], [(20, [3, 2, 8], [30, 1, 1, 1, 12, -1, 0, 0, -1, 0, 0]), (24, [0, 3], [])])]
def t_Ho_writeNumber_ct : ct_L := [(1, 447, e_Ho_writeByte), (36, 450, e_jMath_abs1_v29), (36, 450, e_jMath_abs1_v28), (249, 456, e_jMath_max1_v30)]
set_option maxRecDepth 100000 in
theorem c_Ho_writeNumber {l : Launch} {D : va_G} {kA : Nat → ClassId} (h_Ho_writeByte : ct_ok l D kA GG y_Ho_writeByte z_Ho_writeByte e_Ho_writeByte) : ct_ok l D kA GG y_Ho_writeNumber z_Ho_writeNumber e_Ho_writeNumber := chk_all_ok (FT := []) (PT := []) (CT := t_Ho_writeNumber_ct) (KT := [(1, 455, .int (1000000), (0, 1000000, 1000000, []))]) (NT := []) (AN := n_Ho_writeNumber_an) (OT := [o_Ho_writeNumber_0, o_Ho_writeNumber_1, o_Ho_writeNumber_2, o_Ho_writeNumber_3, o_Ho_writeNumber_4, o_Ho_writeNumber_5, o_Ho_writeNumber_6, o_Ho_writeNumber_7, o_Ho_writeNumber_8, o_Ho_writeNumber_9, o_Ho_writeNumber_10]) 3 424 (List.forall_mem_cons.mpr ⟨oo_Ho_writeNumber_0, List.forall_mem_cons.mpr ⟨oo_Ho_writeNumber_1, List.forall_mem_cons.mpr ⟨oo_Ho_writeNumber_2, List.forall_mem_cons.mpr ⟨oo_Ho_writeNumber_3, List.forall_mem_cons.mpr ⟨oo_Ho_writeNumber_4, List.forall_mem_cons.mpr ⟨oo_Ho_writeNumber_5, List.forall_mem_cons.mpr ⟨oo_Ho_writeNumber_6, List.forall_mem_cons.mpr ⟨oo_Ho_writeNumber_7, List.forall_mem_cons.mpr ⟨oo_Ho_writeNumber_8, List.forall_mem_cons.mpr ⟨oo_Ho_writeNumber_9, List.forall_mem_cons.mpr ⟨oo_Ho_writeNumber_10, List.forall_mem_nil _⟩⟩⟩⟩⟩⟩⟩⟩⟩⟩⟩) (by decide +kernel) ⟨List.forall_mem_nil _, List.forall_mem_nil _, List.forall_mem_cons.mpr ⟨cl_virtual (y := y_Ho_writeByte) (ci := 12) rfl rfl ⟨_, _, rfl⟩ (by decide +kernel) h_Ho_writeByte wm_2345 wm_1 wm_2342 wm_2344 wv_12_0 ⟨by decide, by decide, by decide +kernel⟩ (by decide), List.forall_mem_cons.mpr ⟨cl_static (y := y_jMath_abs1) c_jMath_abs1_v29 wm_1811 wm_10 wm_2355 wm_1810 ⟨by decide, by decide, by decide +kernel⟩ (by decide), List.forall_mem_cons.mpr ⟨cl_static (y := y_jMath_abs1) c_jMath_abs1_v28 wm_1811 wm_10 wm_2355 wm_1810 ⟨by decide, by decide, by decide +kernel⟩ (by decide), List.forall_mem_cons.mpr ⟨cl_static (y := y_jMath_max1) c_jMath_max1_v30 wm_836 wm_10 wm_2357 wm_835 ⟨by decide, by decide, by decide +kernel⟩ (by decide), List.forall_mem_nil _⟩⟩⟩⟩, List.forall_mem_cons.mpr ⟨kx_Ho_1_455, List.forall_mem_nil _⟩, List.forall_mem_nil _, GG_pl⟩ (by decide +kernel)
def n_Dr_isFree_an : List an_T := [(3, [(0, (2, 0, 0, [0])), (1, (0, 0, 47, [])), (2, (0, -2147483648, 2147483647, [])), (3, (0, -2147483648, 2147483647, [])), (4, (0, 0, 24, []))], [], (0, 0), [(0, 0, 99997), (1, 4, 24), (0, 0, 100000)], [], [], [], 0, [], []), (37, [(0, (2, 0, 0, [0])), (1, (0, 0, 47, [])), (2, (0, -2147483648, 2147483647, [])), (3, (0, -2147483648, 2147483647, [])), (4, (0, 0, 47, []))], [], (0, 0), [(0, 0, 99963), (1, 4, 47), (0, 0, 100000)], [], [], [], 0, [], [])]
def t_Dr_isFree_ct : ct_L := [(1, 144, e_Dr_isInBox)]
set_option maxRecDepth 100000 in
theorem c_Dr_isFree {l : Launch} {D : va_G} {kA : Nat → ClassId} (h_Dr_isInBox : ct_ok l D kA GG y_Dr_isInBox z_Dr_isInBox e_Dr_isInBox) : ct_ok l D kA GG y_Dr_isFree z_Dr_isFree e_Dr_isFree := chk_all_ok (FT := [(56, 0, 15), (59, 0, 16), (74, 0, 0), (141, 3, 0)]) (PT := []) (CT := t_Dr_isFree_ct) (KT := []) (NT := []) (AN := n_Dr_isFree_an) (OT := []) 3 200 (List.forall_mem_nil _) (by decide +kernel) ⟨List.forall_mem_cons.mpr ⟨gf_Dr_56, List.forall_mem_cons.mpr ⟨gf_Dr_59, List.forall_mem_cons.mpr ⟨gf_Dr_74, List.forall_mem_cons.mpr ⟨gf_Dr_141, List.forall_mem_nil _⟩⟩⟩⟩, List.forall_mem_nil _, List.forall_mem_cons.mpr ⟨cl_virtual (y := y_Dr_isInBox) (ci := 0) rfl rfl ⟨_, _, rfl⟩ (by decide +kernel) h_Dr_isInBox wm_1999 wm_8 wm_1996 wm_1997 wm_1998 ⟨by decide, by decide, by decide +kernel⟩ (by decide), List.forall_mem_nil _⟩, List.forall_mem_nil _, List.forall_mem_nil _, GG_pl⟩ (by decide +kernel)
def n_Dr_wholeLength_an : List an_T := [(4, [(0, (2, 0, 0, [0])), (1, (1, -9223372036854775808, 9223372036854775807, [])), (3, (0, 0, 48, []))], [], (0, 0), [(0, 0, 99996), (1, 2, 48), (0, 0, 100000), (0, 0, 0), (0, 0, 0)], [], [], [], 0, [], []), (18, [(0, (2, 0, 0, [0])), (1, (1, -9223372036854775808, 9223372036854775807, [])), (3, (0, 0, 47, [])), (4, (0, 0, 25, []))], [], (0, 0), [(0, 0, 99996), (1, 2, 48), (0, 0, 99982), (1, 3, 25), (0, 0, 100000)], [], [], [], 0, [], [])]
def t_Dr_wholeLength_ct : ct_L := [(112, 128, e_Dr_pointX_np), (133, 128, e_Dr_pointX_np), (144, 112, e_jMath_abs1_v21), (184, 134, e_Dr_pointY_np), (205, 134, e_Dr_pointY_np), (216, 112, e_jMath_abs1_v21)]
set_option maxRecDepth 100000 in
theorem c_Dr_wholeLength {l : Launch} {D : va_G} {kA : Nat → ClassId} (h_Dr_pointX : ct_ok l D kA GG y_Dr_pointX z_Dr_pointX e_Dr_pointX) (h_Dr_pointY : ct_ok l D kA GG y_Dr_pointY z_Dr_pointY e_Dr_pointY) : ct_ok l D kA GG y_Dr_wholeLength z_Dr_wholeLength e_Dr_wholeLength := chk_all_ok (FT := [(22, 0, 4), (74, 0, 0), (151, 3, 1)]) (PT := []) (CT := t_Dr_wholeLength_ct) (KT := []) (NT := []) (AN := n_Dr_wholeLength_an) (OT := []) 5 220 (List.forall_mem_nil _) (by decide +kernel) ⟨List.forall_mem_cons.mpr ⟨gf_Dr_22, List.forall_mem_cons.mpr ⟨gf_Dr_74, List.forall_mem_cons.mpr ⟨gf_Dr_151, List.forall_mem_nil _⟩⟩⟩, List.forall_mem_nil _, List.forall_mem_cons.mpr ⟨cl_nopa (cl_virtual (y := y_Dr_pointX) (ci := 0) rfl rfl ⟨_, _, rfl⟩ (by decide +kernel) h_Dr_pointX wm_1986 wm_8 wm_1983 wm_1984 wm_1985 ⟨by decide, by decide, by decide +kernel⟩ (by decide)), List.forall_mem_cons.mpr ⟨cl_nopa (cl_virtual (y := y_Dr_pointX) (ci := 0) rfl rfl ⟨_, _, rfl⟩ (by decide +kernel) h_Dr_pointX wm_1986 wm_8 wm_1983 wm_1984 wm_1985 ⟨by decide, by decide, by decide +kernel⟩ (by decide)), List.forall_mem_cons.mpr ⟨cl_static (y := y_jMath_abs1) c_jMath_abs1_v21 wm_1811 wm_10 wm_2000 wm_1810 ⟨by decide, by decide, by decide +kernel⟩ (by decide), List.forall_mem_cons.mpr ⟨cl_nopa (cl_virtual (y := y_Dr_pointY) (ci := 0) rfl rfl ⟨_, _, rfl⟩ (by decide +kernel) h_Dr_pointY wm_1991 wm_8 wm_1988 wm_1989 wm_1990 ⟨by decide, by decide, by decide +kernel⟩ (by decide)), List.forall_mem_cons.mpr ⟨cl_nopa (cl_virtual (y := y_Dr_pointY) (ci := 0) rfl rfl ⟨_, _, rfl⟩ (by decide +kernel) h_Dr_pointY wm_1991 wm_8 wm_1988 wm_1989 wm_1990 ⟨by decide, by decide, by decide +kernel⟩ (by decide)), List.forall_mem_cons.mpr ⟨cl_static (y := y_jMath_abs1) c_jMath_abs1_v21 wm_1811 wm_10 wm_2000 wm_1810 ⟨by decide, by decide, by decide +kernel⟩ (by decide), List.forall_mem_nil _⟩⟩⟩⟩⟩⟩, List.forall_mem_nil _, List.forall_mem_nil _, GG_pl⟩ (by decide +kernel)
def n_Em_loadKept_an : List an_T := [(13, [(0, (2, 0, 0, [1])), (1, (2, 0, 0, [3])), (2, (0, 0, 48, []))], [], (0, 0), [(0, 0, 99987), (1, 2, 48), (0, 0, 100000)], [], [], [], 0, [], [])]
def t_Em_loadKept_ct : ct_L := [(28, 123, e_Ne_begin_at_Np), (142, 91, e_Ne_join_at_Np)]
set_option maxRecDepth 100000 in
theorem c_Em_loadKept {l : Launch} {D : va_G} {kA : Nat → ClassId} (h_Ne_begin_at_Np : ct_ok l D kA GG y_Ne_begin_at_Np z_Ne_begin_at_Np e_Ne_begin_at_Np) (h_Ne_join_at_Np : ct_ok l D kA GG y_Ne_join_at_Np z_Ne_join_at_Np e_Ne_join_at_Np) : ct_ok l D kA GG y_Em_loadKept z_Em_loadKept e_Em_loadKept := chk_all_ok (FT := [(18, 1, 1), (29, 1, 4), (88, 3, 0), (99, 3, 1), (127, 3, 7), (130, 3, 8)]) (PT := []) (CT := t_Em_loadKept_ct) (KT := []) (NT := []) (AN := n_Em_loadKept_an) (OT := []) 3 200 (List.forall_mem_nil _) (by decide +kernel) ⟨List.forall_mem_cons.mpr ⟨gf_Em_18, List.forall_mem_cons.mpr ⟨gf_Em_29, List.forall_mem_cons.mpr ⟨gf_Em_88, List.forall_mem_cons.mpr ⟨gf_Em_99, List.forall_mem_cons.mpr ⟨gf_Em_127, List.forall_mem_cons.mpr ⟨gf_Em_130, List.forall_mem_nil _⟩⟩⟩⟩⟩⟩, List.forall_mem_nil _, List.forall_mem_cons.mpr ⟨cl_virtual (y := y_Ne_begin_at_Np) (ci := 5) rfl rfl ⟨_, _, rfl⟩ (by decide +kernel) h_Ne_begin_at_Np wm_1060 wm_6 wm_1160 wm_1058 wm_1059 ⟨by decide, by decide, by decide +kernel⟩ (by decide), List.forall_mem_cons.mpr ⟨cl_virtual (y := y_Ne_join_at_Np) (ci := 5) rfl rfl ⟨_, _, rfl⟩ (by decide +kernel) h_Ne_join_at_Np wm_1065 wm_6 wm_1161 wm_1063 wm_1064 ⟨by decide, by decide, by decide +kernel⟩ (by decide), List.forall_mem_nil _⟩⟩, List.forall_mem_nil _, List.forall_mem_nil _, GG_pl⟩ (by decide +kernel)
def n_Fa_learnParts_an : List an_T := [(9, [(0, (2, 0, 0, [2])), (1, (2, 0, 0, [3])), (2, (0, 0, 16777215, [])), (3, (0, 0, 24, []))], [], (0, 0), [(0, 0, 99991), (1, 3, 24), (0, 0, 100000)], [(2, 3, -1000000000000, 16777214), (2, 4, -1000000000000, 16777214), (4, 3, -1000000000000, 0)], [((0, 1), (0, 0, 24, []))], [], 0, [], [])]
def t_Fa_learnParts_ct : ct_L := [(0, 131, e_Fa_setAll), (114, 110, e_Fa_spread_at_Grnear)]
set_option maxRecDepth 100000 in
theorem c_Fa_learnParts {l : Launch} {D : va_G} {kA : Nat → ClassId} (h_Fa_setAll : ct_ok l D kA GG y_Fa_setAll z_Fa_setAll e_Fa_setAll) (h_Fa_spread_at_Grnear : ct_ok l D kA GG y_Fa_spread_at_Grnear z_Fa_spread_at_Grnear e_Fa_spread_at_Grnear) : ct_ok l D kA GG y_Fa_learnParts z_Fa_learnParts e_Fa_learnParts := chk_all_ok (FT := [(15, 2, 1), (25, 2, 4), (64, 3, 0), (78, 3, 14)]) (PT := [(15, 2, 1, .int)]) (CT := t_Fa_learnParts_ct) (KT := []) (NT := []) (AN := n_Fa_learnParts_an) (OT := []) 3 200 (List.forall_mem_nil _) (by decide +kernel) ⟨List.forall_mem_cons.mpr ⟨gf_Fa_15, List.forall_mem_cons.mpr ⟨gf_Fa_25, List.forall_mem_cons.mpr ⟨gf_Fa_64, List.forall_mem_cons.mpr ⟨gf_Fa_78, List.forall_mem_nil _⟩⟩⟩⟩, List.forall_mem_cons.mpr ⟨pf_Fa_15, List.forall_mem_nil _⟩, List.forall_mem_cons.mpr ⟨cl_static (y := y_Fa_setAll) h_Fa_setAll wm_827 wm_7 wm_825 wm_826 ⟨by decide, by decide, by decide +kernel⟩ (by decide), List.forall_mem_cons.mpr ⟨cl_static (y := y_Fa_spread_at_Grnear) h_Fa_spread_at_Grnear wm_821 wm_7 wm_819 wm_820 ⟨by decide, by decide, by decide +kernel⟩ (by decide), List.forall_mem_nil _⟩⟩, List.forall_mem_nil _, List.forall_mem_nil _, GG_pl⟩ (by decide +kernel)
def n_Fa_pickFirst_an : List an_T := [(13, [(0, (2, 0, 0, [2])), (1, (2, 0, 0, [3])), (2, (0, 0, 16777215, [])), (3, (0, 8, 24, [])), (4, (0, 0, 63, [])), (5, (0, -1000000, 2147483647, [])), (6, (0, 0, 24, []))], [], (0, 0), [(0, 0, 99987), (1, 6, 24), (0, 0, 100000)], [], [], [], 0, [], [])]
def t_Fa_pickFirst_ct : ct_L := [(0, 107, e_Fa_lowest), (0, 186, e_Fa_weights)]
set_option maxRecDepth 100000 in
theorem c_Fa_pickFirst {l : Launch} {D : va_G} {kA : Nat → ClassId} (h_Fa_lowest : ct_ok l D kA GG y_Fa_lowest z_Fa_lowest e_Fa_lowest) (h_Fa_weights : ct_ok l D kA GG y_Fa_weights z_Fa_weights e_Fa_weights) : ct_ok l D kA GG y_Fa_pickFirst z_Fa_pickFirst e_Fa_pickFirst := chk_all_ok (FT := [(54, 2, 13)]) (PT := []) (CT := t_Fa_pickFirst_ct) (KT := [(0, 190, .int (Int32.ofInt (-1000000)), (0, -1000000, -1000000, []))]) (NT := []) (AN := n_Fa_pickFirst_an) (OT := []) 3 220 (List.forall_mem_nil _) (by decide +kernel) ⟨List.forall_mem_cons.mpr ⟨gf_Fa_54, List.forall_mem_nil _⟩, List.forall_mem_nil _, List.forall_mem_cons.mpr ⟨cl_static (y := y_Fa_lowest) h_Fa_lowest wm_899 wm_7 wm_897 wm_898 ⟨by decide, by decide, by decide +kernel⟩ (by decide), List.forall_mem_cons.mpr ⟨cl_static (y := y_Fa_weights) h_Fa_weights wm_892 wm_7 wm_890 wm_891 ⟨by decide, by decide, by decide +kernel⟩ (by decide), List.forall_mem_nil _⟩⟩, List.forall_mem_cons.mpr ⟨kx_Fa_0_190, List.forall_mem_nil _⟩, List.forall_mem_nil _, GG_pl⟩ (by decide +kernel)
def n_Fa_uniteAt_at_Grtail_Grhead_Fablock_an : List an_T := [(6, [(0, (0, 0, 23, [])), (1, (0, 0, 16777215, [])), (2, (0, 0, 48, [])), (3, (2, 0, 0, [52])), (4, (2, 0, 0, [53])), (5, (2, 0, 0, [38])), (6, (0, -1, 47, [])), (7, (0, 0, 48, []))], [], (0, 0), [(0, 0, 99994), (1, 7, 48), (0, 0, 100000)], [], [], [], 0, [], []), (36, [(0, (0, 0, 23, [])), (1, (0, 0, 16777215, [])), (2, (0, 1, 48, [])), (3, (2, 0, 0, [52])), (4, (2, 0, 0, [53])), (5, (2, 0, 0, [38])), (6, (0, -1, 47, [])), (7, (0, 0, 47, []))], [], (0, 0), [(0, 0, 99994), (1, 7, 48), (0, 0, 99964)], [], [], [], 0, [], []), (37, [(0, (0, 0, 23, [])), (1, (0, 0, 16777215, [])), (2, (0, 1, 48, [])), (3, (2, 0, 0, [52])), (4, (2, 0, 0, [53])), (5, (2, 0, 0, [38])), (6, (0, -1, 47, [])), (7, (0, 0, 47, []))], [(0, 0, 1, [])], (0, 0), [(0, 0, 99994), (1, 7, 48), (0, 0, 99963)], [], [], [], 0, [], []), (63, [(0, (0, 0, 23, [])), (1, (0, 0, 16777215, [])), (2, (0, 1, 48, [])), (3, (2, 0, 0, [52])), (4, (2, 0, 0, [53])), (5, (2, 0, 0, [38])), (6, (0, -1, 47, [])), (7, (0, 0, 47, [])), (8, (0, 0, 1, []))], [], (0, 0), [(0, 0, 99994), (1, 7, 48), (0, 0, 99937)], [], [], [], 0, [], []), (64, [(0, (0, 0, 23, [])), (1, (0, 0, 16777215, [])), (2, (0, 1, 48, [])), (3, (2, 0, 0, [52])), (4, (2, 0, 0, [53])), (5, (2, 0, 0, [38])), (6, (0, -1, 47, [])), (7, (0, 0, 47, [])), (8, (0, 0, 1, []))], [(0, 0, 1, [])], (0, 0), [(0, 0, 99994), (1, 7, 48), (0, 0, 99936)], [], [], [], 0, [], []), (79, [(0, (0, 0, 23, [])), (1, (0, 0, 16777215, [])), (2, (0, 1, 48, [])), (3, (2, 0, 0, [52])), (4, (2, 0, 0, [53])), (5, (2, 0, 0, [38])), (6, (0, -1, 47, [])), (7, (0, 0, 47, [])), (8, (0, 0, 1, [])), (9, (0, 0, 1, []))], [], (0, 0), [(0, 0, 99994), (1, 7, 48), (0, 0, 99921)], [], [], [], 0, [], []), (139, [(0, (0, 0, 23, [])), (1, (0, 0, 16777215, [])), (2, (0, 1, 48, [])), (3, (2, 0, 0, [52])), (4, (2, 0, 0, [53])), (5, (2, 0, 0, [38])), (6, (0, -1, 47, [])), (7, (0, 0, 47, [])), (8, (0, 0, 1, [])), (9, (0, 0, 1, []))], [], (0, 0), [(0, 0, 99994), (1, 7, 48), (0, 0, 99861)], [], [], [], 0, [], [])]
def t_Fa_uniteAt_at_Grtail_Grhead_Fablock_ct : ct_L := [(339, 118, e_jMath_max1_v31), (375, 124, e_jMath_min1_v32), (411, 127, e_Fa_relabel_at_Fablock)]
set_option maxRecDepth 100000 in
theorem c_Fa_uniteAt_at_Grtail_Grhead_Fablock {l : Launch} {D : va_G} {kA : Nat → ClassId} (h_Fa_relabel_at_Fablock : ct_ok l D kA GG y_Fa_relabel_at_Fablock z_Fa_relabel_at_Fablock e_Fa_relabel_at_Fablock) : ct_ok l D kA GG y_Fa_uniteAt_at_Grtail_Grhead_Fablock z_Fa_uniteAt_at_Grtail_Grhead_Fablock e_Fa_uniteAt_at_Grtail_Grhead_Fablock := chk_all_ok (FT := []) (PT := []) (CT := t_Fa_uniteAt_at_Grtail_Grhead_Fablock_ct) (KT := []) (NT := []) (AN := n_Fa_uniteAt_at_Grtail_Grhead_Fablock_an) (OT := []) 3 316 (List.forall_mem_nil _) (by decide +kernel) ⟨List.forall_mem_nil _, List.forall_mem_nil _, List.forall_mem_cons.mpr ⟨cl_static (y := y_jMath_max1) c_jMath_max1_v31 wm_836 wm_10 wm_834 wm_835 ⟨by decide, by decide, by decide +kernel⟩ (by decide), List.forall_mem_cons.mpr ⟨cl_static (y := y_jMath_min1) c_jMath_min1_v32 wm_658 wm_10 wm_837 wm_657 ⟨by decide, by decide, by decide +kernel⟩ (by decide), List.forall_mem_cons.mpr ⟨cl_static (y := y_Fa_relabel_at_Fablock) h_Fa_relabel_at_Fablock wm_840 wm_7 wm_838 wm_839 ⟨by decide, by decide, by decide +kernel⟩ (by decide), List.forall_mem_nil _⟩⟩⟩, List.forall_mem_nil _, List.forall_mem_nil _, GG_pl⟩ (by decide +kernel)
def n_Fa_uniteAt_at_Netail_Nehead_Emblock_an : List an_T := [(6, [(0, (0, 0, 23, [])), (1, (0, 0, 16777215, [])), (2, (0, 0, 72, [])), (3, (2, 0, 0, [80])), (4, (2, 0, 0, [81])), (5, (2, 0, 0, [26])), (6, (0, -1, 71, [])), (7, (0, 0, 72, []))], [], (0, 0), [(0, 0, 99994), (1, 7, 72), (0, 0, 100000)], [], [], [], 0, [], []), (36, [(0, (0, 0, 23, [])), (1, (0, 0, 16777215, [])), (2, (0, 1, 72, [])), (3, (2, 0, 0, [80])), (4, (2, 0, 0, [81])), (5, (2, 0, 0, [26])), (6, (0, -1, 71, [])), (7, (0, 0, 71, []))], [], (0, 0), [(0, 0, 99994), (1, 7, 72), (0, 0, 99964)], [], [], [], 0, [], []), (37, [(0, (0, 0, 23, [])), (1, (0, 0, 16777215, [])), (2, (0, 1, 72, [])), (3, (2, 0, 0, [80])), (4, (2, 0, 0, [81])), (5, (2, 0, 0, [26])), (6, (0, -1, 71, [])), (7, (0, 0, 71, []))], [(0, 0, 1, [])], (0, 0), [(0, 0, 99994), (1, 7, 72), (0, 0, 99963)], [], [], [], 0, [], []), (63, [(0, (0, 0, 23, [])), (1, (0, 0, 16777215, [])), (2, (0, 1, 72, [])), (3, (2, 0, 0, [80])), (4, (2, 0, 0, [81])), (5, (2, 0, 0, [26])), (6, (0, -1, 71, [])), (7, (0, 0, 71, [])), (8, (0, 0, 1, []))], [], (0, 0), [(0, 0, 99994), (1, 7, 72), (0, 0, 99937)], [], [], [], 0, [], []), (64, [(0, (0, 0, 23, [])), (1, (0, 0, 16777215, [])), (2, (0, 1, 72, [])), (3, (2, 0, 0, [80])), (4, (2, 0, 0, [81])), (5, (2, 0, 0, [26])), (6, (0, -1, 71, [])), (7, (0, 0, 71, [])), (8, (0, 0, 1, []))], [(0, 0, 1, [])], (0, 0), [(0, 0, 99994), (1, 7, 72), (0, 0, 99936)], [], [], [], 0, [], []), (79, [(0, (0, 0, 23, [])), (1, (0, 0, 16777215, [])), (2, (0, 1, 72, [])), (3, (2, 0, 0, [80])), (4, (2, 0, 0, [81])), (5, (2, 0, 0, [26])), (6, (0, -1, 71, [])), (7, (0, 0, 71, [])), (8, (0, 0, 1, [])), (9, (0, 0, 1, []))], [], (0, 0), [(0, 0, 99994), (1, 7, 72), (0, 0, 99921)], [], [], [], 0, [], []), (139, [(0, (0, 0, 23, [])), (1, (0, 0, 16777215, [])), (2, (0, 1, 72, [])), (3, (2, 0, 0, [80])), (4, (2, 0, 0, [81])), (5, (2, 0, 0, [26])), (6, (0, -1, 71, [])), (7, (0, 0, 71, [])), (8, (0, 0, 1, [])), (9, (0, 0, 1, []))], [], (0, 0), [(0, 0, 99994), (1, 7, 72), (0, 0, 99861)], [], [], [], 0, [], [])]
def t_Fa_uniteAt_at_Netail_Nehead_Emblock_ct : ct_L := [(339, 118, e_jMath_max1_v33), (375, 124, e_jMath_min1_v34), (411, 127, e_Fa_relabel_at_Emblock)]
set_option maxRecDepth 100000 in
theorem c_Fa_uniteAt_at_Netail_Nehead_Emblock {l : Launch} {D : va_G} {kA : Nat → ClassId} (h_Fa_relabel_at_Emblock : ct_ok l D kA GG y_Fa_relabel_at_Emblock z_Fa_relabel_at_Emblock e_Fa_relabel_at_Emblock) : ct_ok l D kA GG y_Fa_uniteAt_at_Netail_Nehead_Emblock z_Fa_uniteAt_at_Netail_Nehead_Emblock e_Fa_uniteAt_at_Netail_Nehead_Emblock := chk_all_ok (FT := []) (PT := []) (CT := t_Fa_uniteAt_at_Netail_Nehead_Emblock_ct) (KT := []) (NT := []) (AN := n_Fa_uniteAt_at_Netail_Nehead_Emblock_an) (OT := []) 3 316 (List.forall_mem_nil _) (by decide +kernel) ⟨List.forall_mem_nil _, List.forall_mem_nil _, List.forall_mem_cons.mpr ⟨cl_static (y := y_jMath_max1) c_jMath_max1_v33 wm_836 wm_10 wm_834 wm_835 ⟨by decide, by decide, by decide +kernel⟩ (by decide), List.forall_mem_cons.mpr ⟨cl_static (y := y_jMath_min1) c_jMath_min1_v34 wm_658 wm_10 wm_837 wm_657 ⟨by decide, by decide, by decide +kernel⟩ (by decide), List.forall_mem_cons.mpr ⟨cl_static (y := y_Fa_relabel_at_Emblock) h_Fa_relabel_at_Emblock wm_840 wm_7 wm_838 wm_839 ⟨by decide, by decide, by decide +kernel⟩ (by decide), List.forall_mem_nil _⟩⟩⟩, List.forall_mem_nil _, List.forall_mem_nil _, GG_pl⟩ (by decide +kernel)
def n_Fa_uniteAt_at_Netail_Nptail_Nehead_Nphead_Emblock_an : List an_T := [(6, [(0, (0, 0, 24, [])), (1, (0, 0, 33554431, [])), (2, (0, 0, 72, [])), (3, (2, 0, 0, [80, 140])), (4, (2, 0, 0, [81, 141])), (5, (2, 0, 0, [26])), (6, (0, -1, 71, [])), (7, (0, 0, 72, []))], [], (0, 0), [(0, 0, 99994), (1, 7, 72), (0, 0, 100000)], [], [], [], 0, [], []), (36, [(0, (0, 0, 24, [])), (1, (0, 0, 33554431, [])), (2, (0, 1, 72, [])), (3, (2, 0, 0, [80, 140])), (4, (2, 0, 0, [81, 141])), (5, (2, 0, 0, [26])), (6, (0, -1, 71, [])), (7, (0, 0, 71, []))], [], (0, 0), [(0, 0, 99994), (1, 7, 72), (0, 0, 99964)], [], [], [], 0, [], []), (37, [(0, (0, 0, 24, [])), (1, (0, 0, 33554431, [])), (2, (0, 1, 72, [])), (3, (2, 0, 0, [80, 140])), (4, (2, 0, 0, [81, 141])), (5, (2, 0, 0, [26])), (6, (0, -1, 71, [])), (7, (0, 0, 71, []))], [(0, 0, 1, [])], (0, 0), [(0, 0, 99994), (1, 7, 72), (0, 0, 99963)], [], [], [], 0, [], []), (63, [(0, (0, 0, 24, [])), (1, (0, 0, 33554431, [])), (2, (0, 1, 72, [])), (3, (2, 0, 0, [80, 140])), (4, (2, 0, 0, [81, 141])), (5, (2, 0, 0, [26])), (6, (0, -1, 71, [])), (7, (0, 0, 71, [])), (8, (0, 0, 1, []))], [], (0, 0), [(0, 0, 99994), (1, 7, 72), (0, 0, 99937)], [], [], [], 0, [], []), (64, [(0, (0, 0, 24, [])), (1, (0, 0, 33554431, [])), (2, (0, 1, 72, [])), (3, (2, 0, 0, [80, 140])), (4, (2, 0, 0, [81, 141])), (5, (2, 0, 0, [26])), (6, (0, -1, 71, [])), (7, (0, 0, 71, [])), (8, (0, 0, 1, []))], [(0, 0, 1, [])], (0, 0), [(0, 0, 99994), (1, 7, 72), (0, 0, 99936)], [], [], [], 0, [], []), (79, [(0, (0, 0, 24, [])), (1, (0, 0, 33554431, [])), (2, (0, 1, 72, [])), (3, (2, 0, 0, [80, 140])), (4, (2, 0, 0, [81, 141])), (5, (2, 0, 0, [26])), (6, (0, -1, 71, [])), (7, (0, 0, 71, [])), (8, (0, 0, 1, [])), (9, (0, 0, 1, []))], [], (0, 0), [(0, 0, 99994), (1, 7, 72), (0, 0, 99921)], [], [], [], 0, [], []), (139, [(0, (0, 0, 24, [])), (1, (0, 0, 33554431, [])), (2, (0, 1, 72, [])), (3, (2, 0, 0, [80, 140])), (4, (2, 0, 0, [81, 141])), (5, (2, 0, 0, [26])), (6, (0, -1, 71, [])), (7, (0, 0, 71, [])), (8, (0, 0, 1, [])), (9, (0, 0, 1, []))], [], (0, 0), [(0, 0, 99994), (1, 7, 72), (0, 0, 99861)], [], [], [], 0, [], [])]
def t_Fa_uniteAt_at_Netail_Nptail_Nehead_Nphead_Emblock_ct : ct_L := [(339, 118, e_jMath_max1_v33), (375, 124, e_jMath_min1_v34), (411, 127, e_Fa_relabel_at_Emblock)]
set_option maxRecDepth 100000 in
theorem c_Fa_uniteAt_at_Netail_Nptail_Nehead_Nphead_Emblock {l : Launch} {D : va_G} {kA : Nat → ClassId} (h_Fa_relabel_at_Emblock : ct_ok l D kA GG y_Fa_relabel_at_Emblock z_Fa_relabel_at_Emblock e_Fa_relabel_at_Emblock) : ct_ok l D kA GG y_Fa_uniteAt_at_Netail_Nptail_Nehead_Nphead_Emblock z_Fa_uniteAt_at_Netail_Nptail_Nehead_Nphead_Emblock e_Fa_uniteAt_at_Netail_Nptail_Nehead_Nphead_Emblock := chk_all_ok (FT := []) (PT := []) (CT := t_Fa_uniteAt_at_Netail_Nptail_Nehead_Nphead_Emblock_ct) (KT := []) (NT := []) (AN := n_Fa_uniteAt_at_Netail_Nptail_Nehead_Nphead_Emblock_an) (OT := []) 3 316 (List.forall_mem_nil _) (by decide +kernel) ⟨List.forall_mem_nil _, List.forall_mem_nil _, List.forall_mem_cons.mpr ⟨cl_static (y := y_jMath_max1) c_jMath_max1_v33 wm_836 wm_10 wm_834 wm_835 ⟨by decide, by decide, by decide +kernel⟩ (by decide), List.forall_mem_cons.mpr ⟨cl_static (y := y_jMath_min1) c_jMath_min1_v34 wm_658 wm_10 wm_837 wm_657 ⟨by decide, by decide, by decide +kernel⟩ (by decide), List.forall_mem_cons.mpr ⟨cl_static (y := y_Fa_relabel_at_Emblock) h_Fa_relabel_at_Emblock wm_840 wm_7 wm_838 wm_839 ⟨by decide, by decide, by decide +kernel⟩ (by decide), List.forall_mem_nil _⟩⟩⟩, List.forall_mem_nil _, List.forall_mem_nil _, GG_pl⟩ (by decide +kernel)
def o_Gr_hasNextName_0 : or_T := (14, 5, [(3, (0, 2, 3, [])), (4, (0, 0, 0, []))], [], [], [], [(21, [4, 3], [3])], [], [])
theorem oo_Gr_hasNextName_0 {kA : Nat → ClassId} : or_ok kA GG o_Gr_hasNextName_0 := by
  intro A ta ws vs hD hth hl hk hds hf
  have hl : vs.length = 5 := hl
  have hk : ∀ q ∈ ([(3, (0, 2, 3, [])), (4, (0, 0, 0, []))] : List (Nat × tv_T)), tv_ok ta q.2 (n_v vs q.1) := hk
  obtain ⟨t3, hk⟩ := List.forall_mem_cons.mp hk
  have t3 : tv_ok ta (0, 2, 3, []) (n_v vs 3) := t3
  have k3 : 2 ≤ v_iv (n_v vs 3) ∧ v_iv (n_v vs 3) ≤ 3 := tv_rng t3
  obtain ⟨t4, hk⟩ := List.forall_mem_cons.mp hk
  have t4 : tv_ok ta (0, 0, 0, []) (n_v vs 4) := t4
  have k4 : 0 ≤ v_iv (n_v vs 4) ∧ v_iv (n_v vs 4) ≤ 0 := tv_rng t4
  have nf0 : fc_1 (21, [4, 3], [3]) ws (vs) := by
    refine ⟨fun n hn => ?_, ?_⟩
    · have hn : n ∈ [4, 3] := hn
      rw [hl]
      simp only [List.mem_cons, List.not_mem_nil, or_false] at hn
      show n < 5; omega
    · show v_iv (n_v vs 4) + v_iv (n_v vs 3) ≤ 3
      omega
  refine ⟨(fun _ h => (by cases h)), [], trivial, ?_, (fun _ h => (by cases h))⟩
  rw [List.append_nil]
  exact List.forall_mem_cons.mpr ⟨⟨show (21 : Nat) < 100 from by decide, nf0⟩, (fun _ h => (by cases h))⟩
def n_Gr_hasNextName_an : List an_T := []
def t_Gr_hasNextName_ct : ct_L := [(1, 118, e_Gr_nextName), (46, 122, e_Gr_findNode_at_newGrhasNextName1)]
set_option maxRecDepth 100000 in
theorem c_Gr_hasNextName {l : Launch} {D : va_G} {kA : Nat → ClassId} (h_Gr_findNode_at_newGrhasNextName1 : ct_ok l D kA GG y_Gr_findNode_at_newGrhasNextName1 z_Gr_findNode_at_newGrhasNextName1 e_Gr_findNode_at_newGrhasNextName1) (h_Gr_nextName : ct_ok l D kA GG y_Gr_nextName z_Gr_nextName e_Gr_nextName) : ct_ok l D kA GG y_Gr_hasNextName z_Gr_hasNextName e_Gr_hasNextName := chk_all_ok (FT := []) (PT := []) (CT := t_Gr_hasNextName_ct) (KT := []) (NT := [(1, 270, .byte)]) (AN := n_Gr_hasNextName_an) (OT := [o_Gr_hasNextName_0]) 0 200 (List.forall_mem_cons.mpr ⟨oo_Gr_hasNextName_0, List.forall_mem_nil _⟩) (by decide +kernel) ⟨List.forall_mem_nil _, List.forall_mem_nil _, List.forall_mem_cons.mpr ⟨cl_virtual (y := y_Gr_nextName) (ci := 3) rfl rfl ⟨_, _, rfl⟩ (by decide +kernel) h_Gr_nextName wm_967 wm_3 wm_964 wm_966 wv_2_13 ⟨by decide, by decide, by decide +kernel⟩ (by decide), List.forall_mem_cons.mpr ⟨cl_virtual (y := y_Gr_findNode_at_newGrhasNextName1) (ci := 3) rfl rfl ⟨_, _, rfl⟩ (by decide +kernel) h_Gr_findNode_at_newGrhasNextName1 wm_739 wm_3 wm_968 wm_737 wm_738 ⟨by decide, by decide, by decide +kernel⟩ (by decide), List.forall_mem_nil _⟩⟩, List.forall_mem_nil _, List.forall_mem_cons.mpr ⟨wm_192, List.forall_mem_nil _⟩, GG_pl⟩ (by decide +kernel)
def n_Ne_insertLast_an : List an_T := []
def t_Ne_insertLast_ct : ct_L := [(1, 84, e_Ne_endAt), (1, 91, e_Ne_insertAhead)]
set_option maxRecDepth 100000 in
theorem c_Ne_insertLast {l : Launch} {D : va_G} {kA : Nat → ClassId} (h_Ne_endAt : ct_ok l D kA GG y_Ne_endAt z_Ne_endAt e_Ne_endAt) (h_Ne_insertAhead : ct_ok l D kA GG y_Ne_insertAhead z_Ne_insertAhead e_Ne_insertAhead) : ct_ok l D kA GG y_Ne_insertLast z_Ne_insertLast e_Ne_insertLast := chk_all_ok (FT := [(46, 5, 11), (49, 5, 12)]) (PT := []) (CT := t_Ne_insertLast_ct) (KT := []) (NT := []) (AN := n_Ne_insertLast_an) (OT := []) 0 200 (List.forall_mem_nil _) (by decide +kernel) ⟨List.forall_mem_cons.mpr ⟨gf_Ne_46, List.forall_mem_cons.mpr ⟨gf_Ne_49, List.forall_mem_nil _⟩⟩, List.forall_mem_nil _, List.forall_mem_cons.mpr ⟨cl_virtual (y := y_Ne_endAt) (ci := 5) rfl rfl ⟨_, _, rfl⟩ (by decide +kernel) h_Ne_endAt wm_1138 wm_6 wm_1151 wm_1136 wm_1137 ⟨by decide, by decide, by decide +kernel⟩ (by decide), List.forall_mem_cons.mpr ⟨cl_virtual (y := y_Ne_insertAhead) (ci := 5) rfl rfl ⟨_, _, rfl⟩ (by decide +kernel) h_Ne_insertAhead wm_1526 wm_6 wm_1523 wm_1524 wm_1525 ⟨by decide, by decide, by decide +kernel⟩ (by decide), List.forall_mem_nil _⟩⟩, List.forall_mem_nil _, List.forall_mem_nil _, GG_pl⟩ (by decide +kernel)
def o_Ne_load_at_Ne_0 : or_T := (10, 4, [(0, (2, 0, 0, [5])), (2, (0, 0, 24, []))], [(20, [0, 2], [30, 0, 1, 1, 5, -1, 0, 0])], [], [], [(20, [0], [30, 24, 1, 1, 5]), (24, [0, 0], [])], [], [])
theorem oo_Ne_load_at_Ne_0 {kA : Nat → ClassId} : or_ok kA GG o_Ne_load_at_Ne_0 := by
  intro A ta ws vs hD hth hl hk hds hf
  have hl : vs.length = 4 := hl
  have hk : ∀ q ∈ ([(0, (2, 0, 0, [5])), (2, (0, 0, 24, []))] : List (Nat × tv_T)), tv_ok ta q.2 (n_v vs q.1) := hk
  obtain ⟨t0, hk⟩ := List.forall_mem_cons.mp hk
  have t0 : tv_ok ta (2, 0, 0, [5]) (n_v vs 0) := t0
  have r0 : ta (v_ad (n_v vs 0)) = some 5 := tv_rg t0
  obtain ⟨t2, hk⟩ := List.forall_mem_cons.mp hk
  have t2 : tv_ok ta (0, 0, 24, []) (n_v vs 2) := t2
  have k2 : 0 ≤ v_iv (n_v vs 2) ∧ v_iv (n_v vs 2) ≤ 24 := tv_rng t2
  have hf : fc_ok [(20, [0, 2], [30, 0, 1, 1, 5, -1, 0, 0])] ta ws vs := hf
  obtain ⟨f0, hf⟩ := fc_un (show (20 : Nat) < 100 from by decide) hf
  have f0 : 1 * w_fi ws (n_v vs 0) 5 + ((-1) * v_iv (n_v vs 2) + 0) ≤ 0 := f0
  have kz_0_5 : 0 ≤ w_fi ws (n_v vs 0) 5 ∧ w_fi ws (n_v vs 0) 5 ≤ 24 := tv_rng (th_fd hD hth r0 (g := GG_5) rfl (k := 5) (t := (0, 0, 24, [])) rfl rfl)
  have nf0 : fc_1 (20, [0], [30, 24, 1, 1, 5]) ws (vs) := by
    refine ⟨fun n hn => ?_, ?_⟩
    · have hn : n ∈ [0] := hn
      rw [hl]
      simp only [List.mem_cons, List.not_mem_nil, or_false] at hn
      show n < 4; omega
    · show 1 * w_fi ws (n_v vs 0) 5 + 0 ≤ 24
      omega
  have nf1 : fc_1 (24, [0, 0], []) ws (vs) := by
    refine ⟨fun n hn => ?_, ?_⟩
    · have hn : n ∈ [0, 0] := hn
      rw [hl]
      simp only [List.mem_cons, List.not_mem_nil, or_false] at hn
      show n < 4; omega
    · show n_v vs 0 = n_v vs 0
      first | rfl | simp only [true_and]
  refine ⟨(fun _ h => (by cases h)), [], trivial, ?_, (fun _ h => (by cases h))⟩
  rw [List.append_nil]
  exact List.forall_mem_cons.mpr ⟨⟨show (20 : Nat) < 100 from by decide, nf0⟩, List.forall_mem_cons.mpr ⟨⟨show (24 : Nat) < 100 from by decide, nf1⟩, (fun _ h => (by cases h))⟩⟩
def o_Ne_load_at_Ne_1 : or_T := (41, 6, [(0, (2, 0, 0, [5])), (2, (2, 0, 0, [5]))], [(20, [2], [30, 24, 1, 1, 5]), (24, [0, 2], [])], [], [], [(20, [0], [30, 24, 1, 1, 5])], [], [])
theorem oo_Ne_load_at_Ne_1 {kA : Nat → ClassId} : or_ok kA GG o_Ne_load_at_Ne_1 := by
  intro A ta ws vs hD hth hl hk hds hf
  have hl : vs.length = 6 := hl
  have hk : ∀ q ∈ ([(0, (2, 0, 0, [5])), (2, (2, 0, 0, [5]))] : List (Nat × tv_T)), tv_ok ta q.2 (n_v vs q.1) := hk
  obtain ⟨t0, hk⟩ := List.forall_mem_cons.mp hk
  have t0 : tv_ok ta (2, 0, 0, [5]) (n_v vs 0) := t0
  have r0 : ta (v_ad (n_v vs 0)) = some 5 := tv_rg t0
  obtain ⟨t2, hk⟩ := List.forall_mem_cons.mp hk
  have t2 : tv_ok ta (2, 0, 0, [5]) (n_v vs 2) := t2
  have r2 : ta (v_ad (n_v vs 2)) = some 5 := tv_rg t2
  have hf : fc_ok [(20, [2], [30, 24, 1, 1, 5]), (24, [0, 2], [])] ta ws vs := hf
  obtain ⟨f0, hf⟩ := fc_un (show (20 : Nat) < 100 from by decide) hf
  have f0 : 1 * w_fi ws (n_v vs 2) 5 + 0 ≤ 24 := f0
  obtain ⟨f1, hf⟩ := fc_un (show (24 : Nat) < 100 from by decide) hf
  have f1 : n_v vs 0 = n_v vs 2 := f1
  have q2 : n_v vs 2 = n_v vs 0 := f1.symm
  rw [q2] at f0
  have kz_0_5 : 0 ≤ w_fi ws (n_v vs 0) 5 ∧ w_fi ws (n_v vs 0) 5 ≤ 24 := tv_rng (th_fd hD hth r0 (g := GG_5) rfl (k := 5) (t := (0, 0, 24, [])) rfl rfl)
  have nf0 : fc_1 (20, [0], [30, 24, 1, 1, 5]) ws (vs) := by
    refine ⟨fun n hn => ?_, ?_⟩
    · have hn : n ∈ [0] := hn
      rw [hl]
      simp only [List.mem_cons, List.not_mem_nil, or_false] at hn
      show n < 6; omega
    · show 1 * w_fi ws (n_v vs 0) 5 + 0 ≤ 24
      omega
  refine ⟨(fun _ h => (by cases h)), [], trivial, ?_, (fun _ h => (by cases h))⟩
  rw [List.append_nil]
  exact List.forall_mem_cons.mpr ⟨⟨show (20 : Nat) < 100 from by decide, nf0⟩, (fun _ h => (by cases h))⟩
def n_Ne_load_at_Ne_an : List an_T := [(10, [(0, (2, 0, 0, [5])), (1, (2, 0, 0, [3])), (2, (0, 0, 48, []))], [], (0, 0), [(0, 0, 99990), (1, 4, 48), (0, 0, 100000)], [], [], [(2, 0, 0, [5]), (2, 0, 0, [3])], 0, [], [(20, [2], [30, 24, 1, 1, 5]), (24, [0, 2], [])])]
def t_Ne_load_at_Ne_ct : ct_L := [(19, 73, e_Ne_begin_at_Ne), (97, 80, e_Ne_join_at_Ne)]
set_option maxRecDepth 100000 in
theorem c_Ne_load_at_Ne {l : Launch} {D : va_G} {kA : Nat → ClassId} (h_Ne_begin_at_Ne : ct_ok l D kA GG y_Ne_begin_at_Ne z_Ne_begin_at_Ne e_Ne_begin_at_Ne) (h_Ne_join_at_Ne : ct_ok l D kA GG y_Ne_join_at_Ne z_Ne_join_at_Ne e_Ne_join_at_Ne) : ct_ok l D kA GG y_Ne_load_at_Ne z_Ne_load_at_Ne e_Ne_load_at_Ne := chk_all_ok (FT := [(70, 3, 0), (77, 3, 1), (78, 3, 7), (79, 3, 8)]) (PT := []) (CT := t_Ne_load_at_Ne_ct) (KT := []) (NT := []) (AN := n_Ne_load_at_Ne_an) (OT := [o_Ne_load_at_Ne_0, o_Ne_load_at_Ne_1]) 3 200 (List.forall_mem_cons.mpr ⟨oo_Ne_load_at_Ne_0, List.forall_mem_cons.mpr ⟨oo_Ne_load_at_Ne_1, List.forall_mem_nil _⟩⟩) (by decide +kernel) ⟨List.forall_mem_cons.mpr ⟨gf_Ne_70, List.forall_mem_cons.mpr ⟨gf_Ne_77, List.forall_mem_cons.mpr ⟨gf_Ne_78, List.forall_mem_cons.mpr ⟨gf_Ne_79, List.forall_mem_nil _⟩⟩⟩⟩, List.forall_mem_nil _, List.forall_mem_cons.mpr ⟨cl_virtual (y := y_Ne_begin_at_Ne) (ci := 5) rfl rfl ⟨_, _, rfl⟩ (by decide +kernel) h_Ne_begin_at_Ne wm_1060 wm_6 wm_1057 wm_1058 wm_1059 ⟨by decide, by decide, by decide +kernel⟩ (by decide), List.forall_mem_cons.mpr ⟨cl_virtual (y := y_Ne_join_at_Ne) (ci := 5) rfl rfl ⟨_, _, rfl⟩ (by decide +kernel) h_Ne_join_at_Ne wm_1065 wm_6 wm_1062 wm_1063 wm_1064 ⟨by decide, by decide, by decide +kernel⟩ (by decide), List.forall_mem_nil _⟩⟩, List.forall_mem_nil _, List.forall_mem_nil _, GG_pl⟩ (by decide +kernel)
def o_Ne_load_at_Np_0 : or_T := (10, 4, [(0, (2, 0, 0, [149])), (2, (0, 0, 24, []))], [(20, [0, 2], [30, 0, 1, 1, 5, -1, 0, 0])], [], [], [(20, [0], [30, 24, 1, 1, 5]), (24, [0, 0], [])], [], [])
theorem oo_Ne_load_at_Np_0 {kA : Nat → ClassId} : or_ok kA GG o_Ne_load_at_Np_0 := by
  intro A ta ws vs hD hth hl hk hds hf
  have hl : vs.length = 4 := hl
  have hk : ∀ q ∈ ([(0, (2, 0, 0, [149])), (2, (0, 0, 24, []))] : List (Nat × tv_T)), tv_ok ta q.2 (n_v vs q.1) := hk
  obtain ⟨t0, hk⟩ := List.forall_mem_cons.mp hk
  have t0 : tv_ok ta (2, 0, 0, [149]) (n_v vs 0) := t0
  have r0 : ta (v_ad (n_v vs 0)) = some 149 := tv_rg t0
  obtain ⟨t2, hk⟩ := List.forall_mem_cons.mp hk
  have t2 : tv_ok ta (0, 0, 24, []) (n_v vs 2) := t2
  have k2 : 0 ≤ v_iv (n_v vs 2) ∧ v_iv (n_v vs 2) ≤ 24 := tv_rng t2
  have hf : fc_ok [(20, [0, 2], [30, 0, 1, 1, 5, -1, 0, 0])] ta ws vs := hf
  obtain ⟨f0, hf⟩ := fc_un (show (20 : Nat) < 100 from by decide) hf
  have f0 : 1 * w_fi ws (n_v vs 0) 5 + ((-1) * v_iv (n_v vs 2) + 0) ≤ 0 := f0
  have kz_0_5 : 0 ≤ w_fi ws (n_v vs 0) 5 ∧ w_fi ws (n_v vs 0) 5 ≤ 25 := tv_rng (th_fd hD hth r0 (g := GG_149) rfl (k := 5) (t := (0, 0, 25, [])) rfl rfl)
  have nf0 : fc_1 (20, [0], [30, 24, 1, 1, 5]) ws (vs) := by
    refine ⟨fun n hn => ?_, ?_⟩
    · have hn : n ∈ [0] := hn
      rw [hl]
      simp only [List.mem_cons, List.not_mem_nil, or_false] at hn
      show n < 4; omega
    · show 1 * w_fi ws (n_v vs 0) 5 + 0 ≤ 24
      omega
  have nf1 : fc_1 (24, [0, 0], []) ws (vs) := by
    refine ⟨fun n hn => ?_, ?_⟩
    · have hn : n ∈ [0, 0] := hn
      rw [hl]
      simp only [List.mem_cons, List.not_mem_nil, or_false] at hn
      show n < 4; omega
    · show n_v vs 0 = n_v vs 0
      first | rfl | simp only [true_and]
  refine ⟨(fun _ h => (by cases h)), [], trivial, ?_, (fun _ h => (by cases h))⟩
  rw [List.append_nil]
  exact List.forall_mem_cons.mpr ⟨⟨show (20 : Nat) < 100 from by decide, nf0⟩, List.forall_mem_cons.mpr ⟨⟨show (24 : Nat) < 100 from by decide, nf1⟩, (fun _ h => (by cases h))⟩⟩
def o_Ne_load_at_Np_1 : or_T := (41, 6, [(0, (2, 0, 0, [149])), (2, (2, 0, 0, [149]))], [(20, [2], [30, 24, 1, 1, 5]), (24, [0, 2], [])], [], [], [(20, [0], [30, 24, 1, 1, 5])], [], [])
theorem oo_Ne_load_at_Np_1 {kA : Nat → ClassId} : or_ok kA GG o_Ne_load_at_Np_1 := by
  intro A ta ws vs hD hth hl hk hds hf
  have hl : vs.length = 6 := hl
  have hk : ∀ q ∈ ([(0, (2, 0, 0, [149])), (2, (2, 0, 0, [149]))] : List (Nat × tv_T)), tv_ok ta q.2 (n_v vs q.1) := hk
  obtain ⟨t0, hk⟩ := List.forall_mem_cons.mp hk
  have t0 : tv_ok ta (2, 0, 0, [149]) (n_v vs 0) := t0
  have r0 : ta (v_ad (n_v vs 0)) = some 149 := tv_rg t0
  obtain ⟨t2, hk⟩ := List.forall_mem_cons.mp hk
  have t2 : tv_ok ta (2, 0, 0, [149]) (n_v vs 2) := t2
  have r2 : ta (v_ad (n_v vs 2)) = some 149 := tv_rg t2
  have hf : fc_ok [(20, [2], [30, 24, 1, 1, 5]), (24, [0, 2], [])] ta ws vs := hf
  obtain ⟨f0, hf⟩ := fc_un (show (20 : Nat) < 100 from by decide) hf
  have f0 : 1 * w_fi ws (n_v vs 2) 5 + 0 ≤ 24 := f0
  obtain ⟨f1, hf⟩ := fc_un (show (24 : Nat) < 100 from by decide) hf
  have f1 : n_v vs 0 = n_v vs 2 := f1
  have q2 : n_v vs 2 = n_v vs 0 := f1.symm
  rw [q2] at f0
  have kz_0_5 : 0 ≤ w_fi ws (n_v vs 0) 5 ∧ w_fi ws (n_v vs 0) 5 ≤ 25 := tv_rng (th_fd hD hth r0 (g := GG_149) rfl (k := 5) (t := (0, 0, 25, [])) rfl rfl)
  have nf0 : fc_1 (20, [0], [30, 24, 1, 1, 5]) ws (vs) := by
    refine ⟨fun n hn => ?_, ?_⟩
    · have hn : n ∈ [0] := hn
      rw [hl]
      simp only [List.mem_cons, List.not_mem_nil, or_false] at hn
      show n < 6; omega
    · show 1 * w_fi ws (n_v vs 0) 5 + 0 ≤ 24
      omega
  refine ⟨(fun _ h => (by cases h)), [], trivial, ?_, (fun _ h => (by cases h))⟩
  rw [List.append_nil]
  exact List.forall_mem_cons.mpr ⟨⟨show (20 : Nat) < 100 from by decide, nf0⟩, (fun _ h => (by cases h))⟩
def n_Ne_load_at_Np_an : List an_T := [(10, [(0, (2, 0, 0, [149])), (1, (2, 0, 0, [3])), (2, (0, 0, 48, []))], [], (0, 0), [(0, 0, 99990), (1, 4, 48), (0, 0, 100000)], [], [], [(2, 0, 0, [149]), (2, 0, 0, [3])], 0, [], [(20, [2], [30, 24, 1, 1, 5]), (24, [0, 2], [])])]
def t_Ne_load_at_Np_ct : ct_L := [(19, 73, e_Ne_begin_at_Np), (97, 80, e_Ne_join_at_Np)]
set_option maxRecDepth 100000 in
theorem c_Ne_load_at_Np {l : Launch} {D : va_G} {kA : Nat → ClassId} (h_Ne_begin_at_Np : ct_ok l D kA GG y_Ne_begin_at_Np z_Ne_begin_at_Np e_Ne_begin_at_Np) (h_Ne_join_at_Np : ct_ok l D kA GG y_Ne_join_at_Np z_Ne_join_at_Np e_Ne_join_at_Np) : ct_ok l D kA GG y_Ne_load_at_Np z_Ne_load_at_Np e_Ne_load_at_Np := chk_all_ok (FT := [(70, 3, 0), (77, 3, 1), (78, 3, 7), (79, 3, 8)]) (PT := []) (CT := t_Ne_load_at_Np_ct) (KT := []) (NT := []) (AN := n_Ne_load_at_Np_an) (OT := [o_Ne_load_at_Np_0, o_Ne_load_at_Np_1]) 3 200 (List.forall_mem_cons.mpr ⟨oo_Ne_load_at_Np_0, List.forall_mem_cons.mpr ⟨oo_Ne_load_at_Np_1, List.forall_mem_nil _⟩⟩) (by decide +kernel) ⟨List.forall_mem_cons.mpr ⟨gf_Ne_70, List.forall_mem_cons.mpr ⟨gf_Ne_77, List.forall_mem_cons.mpr ⟨gf_Ne_78, List.forall_mem_cons.mpr ⟨gf_Ne_79, List.forall_mem_nil _⟩⟩⟩⟩, List.forall_mem_nil _, List.forall_mem_cons.mpr ⟨cl_virtual (y := y_Ne_begin_at_Np) (ci := 5) rfl rfl ⟨_, _, rfl⟩ (by decide +kernel) h_Ne_begin_at_Np wm_1060 wm_6 wm_1057 wm_1058 wm_1059 ⟨by decide, by decide, by decide +kernel⟩ (by decide), List.forall_mem_cons.mpr ⟨cl_virtual (y := y_Ne_join_at_Np) (ci := 5) rfl rfl ⟨_, _, rfl⟩ (by decide +kernel) h_Ne_join_at_Np wm_1065 wm_6 wm_1062 wm_1063 wm_1064 ⟨by decide, by decide, by decide +kernel⟩ (by decide), List.forall_mem_nil _⟩⟩, List.forall_mem_nil _, List.forall_mem_nil _, GG_pl⟩ (by decide +kernel)
def n_Pl_moveOnRing_an : List an_T := [(4, [(0, (2, 0, 0, [6])), (1, (0, 1, 23, [])), (2, (0, 0, 23, [])), (3, (0, 0, 24, []))], [], (0, 0), [(0, 0, 99996), (1, 3, 24), (0, 0, 100000)], [], [((0, 0), (2, 0, 0, [3]))], [], 0, [], []), (39, [(0, (2, 0, 0, [6])), (1, (0, 1, 23, [])), (2, (0, 0, 23, [])), (3, (0, 0, 23, []))], [], (0, 0), [(0, 0, 99961), (2, 3, 0), (0, 0, 100000)], [], [((0, 0), (2, 0, 0, [3]))], [], 0, [], []), (82, [(0, (2, 0, 0, [6])), (1, (0, 1, 23, [])), (2, (0, 0, 23, [])), (3, (0, -2147483648, 2147483647, [])), (4, (0, 1, 23, [])), (5, (0, 2, 24, []))], [], (0, 0), [(0, 0, 99918), (1, 5, 24), (0, 0, 100000)], [], [((0, 0), (2, 0, 0, [3]))], [], 0, [], []), (154, [(0, (2, 0, 0, [6])), (1, (0, 1, 23, [])), (2, (0, 0, 23, [])), (3, (0, -2147483648, 2147483647, [])), (4, (0, 1, 23, [])), (5, (0, -1, 23, []))], [], (0, 0), [(0, 0, 99846), (2, 5, -1), (0, 0, 100000)], [], [((0, 0), (2, 0, 0, [3]))], [], 0, [], [])]
def t_Pl_moveOnRing_ct : ct_L := [(1, 220, e_Pl_ringCrossings)]
set_option maxRecDepth 100000 in
theorem c_Pl_moveOnRing {l : Launch} {D : va_G} {kA : Nat → ClassId} (h_Pl_ringCrossings : ct_ok l D kA GG y_Pl_ringCrossings z_Pl_ringCrossings e_Pl_ringCrossings) : ct_ok l D kA GG y_Pl_moveOnRing z_Pl_moveOnRing e_Pl_moveOnRing := chk_all_ok (FT := [(9, 6, 0), (19, 6, 2), (74, 3, 0)]) (PT := []) (CT := t_Pl_moveOnRing_ct) (KT := []) (NT := []) (AN := n_Pl_moveOnRing_an) (OT := []) 3 456 (List.forall_mem_nil _) (by decide +kernel) ⟨List.forall_mem_cons.mpr ⟨gf_Pl_9, List.forall_mem_cons.mpr ⟨gf_Pl_19, List.forall_mem_cons.mpr ⟨gf_Pl_74, List.forall_mem_nil _⟩⟩⟩, List.forall_mem_nil _, List.forall_mem_cons.mpr ⟨cl_virtual (y := y_Pl_ringCrossings) (ci := 6) rfl rfl ⟨_, _, rfl⟩ (by decide +kernel) h_Pl_ringCrossings wm_1779 wm_21 wm_1776 wm_1778 wv_8_8 ⟨by decide, by decide, by decide +kernel⟩ (by decide), List.forall_mem_nil _⟩, List.forall_mem_nil _, List.forall_mem_nil _, GG_pl⟩ (by decide +kernel)
def n_Pn_middleOfEdges_an : List an_T := [(10, [(0, (2, 0, 0, [7])), (1, (2, 0, 0, [3])), (2, (0, 0, 23, [])), (3, (0, -2147483648, 1000000, [])), (4, (0, -1000000, 2147483647, [])), (5, (0, 0, 48, []))], [], (0, 0), [(0, 0, 99990), (1, 5, 48), (0, 0, 100000)], [], [], [], 0, [], [])]
def t_Pn_middleOfEdges_ct : ct_L := [(150, 242, e_jMath_min1_v38), (150, 242, e_jMath_min1_v40), (189, 92, e_jMath_max1_v26), (189, 92, e_jMath_max1_v27), (237, 245, e_jMath_floorDiv1_v37), (237, 245, e_jMath_floorDiv1_v39)]
set_option maxRecDepth 100000 in
theorem c_Pn_middleOfEdges {l : Launch} {D : va_G} {kA : Nat → ClassId} : ct_ok l D kA GG y_Pn_middleOfEdges z_Pn_middleOfEdges e_Pn_middleOfEdges := chk_all_ok (FT := [(41, 7, 8), (203, 3, 1), (214, 3, 7), (218, 3, 8)]) (PT := []) (CT := t_Pn_middleOfEdges_ct) (KT := [(0, 240, .int (1000000), (0, 1000000, 1000000, [])), (0, 241, .int (Int32.ofInt (-1000000)), (0, -1000000, -1000000, []))]) (NT := []) (AN := n_Pn_middleOfEdges_an) (OT := []) 3 248 (List.forall_mem_nil _) (by decide +kernel) ⟨List.forall_mem_cons.mpr ⟨gf_Pn_41, List.forall_mem_cons.mpr ⟨gf_Pn_203, List.forall_mem_cons.mpr ⟨gf_Pn_214, List.forall_mem_cons.mpr ⟨gf_Pn_218, List.forall_mem_nil _⟩⟩⟩⟩, List.forall_mem_nil _, List.forall_mem_cons.mpr ⟨cl_static (y := y_jMath_min1) c_jMath_min1_v38 wm_658 wm_10 wm_1614 wm_657 ⟨by decide, by decide, by decide +kernel⟩ (by decide), List.forall_mem_cons.mpr ⟨cl_static (y := y_jMath_min1) c_jMath_min1_v40 wm_658 wm_10 wm_1614 wm_657 ⟨by decide, by decide, by decide +kernel⟩ (by decide), List.forall_mem_cons.mpr ⟨cl_static (y := y_jMath_max1) c_jMath_max1_v26 wm_836 wm_10 wm_1574 wm_835 ⟨by decide, by decide, by decide +kernel⟩ (by decide), List.forall_mem_cons.mpr ⟨cl_static (y := y_jMath_max1) c_jMath_max1_v27 wm_836 wm_10 wm_1574 wm_835 ⟨by decide, by decide, by decide +kernel⟩ (by decide), List.forall_mem_cons.mpr ⟨cl_static (y := y_jMath_floorDiv1) c_jMath_floorDiv1_v37 wm_1617 wm_10 wm_1615 wm_1616 ⟨by decide, by decide, by decide +kernel⟩ (by decide), List.forall_mem_cons.mpr ⟨cl_static (y := y_jMath_floorDiv1) c_jMath_floorDiv1_v39 wm_1617 wm_10 wm_1615 wm_1616 ⟨by decide, by decide, by decide +kernel⟩ (by decide), List.forall_mem_nil _⟩⟩⟩⟩⟩⟩, List.forall_mem_cons.mpr ⟨kx_Pn_0_240, List.forall_mem_cons.mpr ⟨kx_Pn_0_241, List.forall_mem_nil _⟩⟩, List.forall_mem_nil _, GG_pl⟩ (by decide +kernel)
def n_Ro_frame_an : List an_T := [(20, [(0, (2, 0, 0, [9])), (1, (0, -1000000000, 2147483647, [])), (2, (0, -1000000000, 2147483647, [])), (3, (0, 0, 24, []))], [], (0, 0), [(0, 0, 99980), (1, 3, 24), (0, 0, 100000)], [], [((0, 2), (0, -2147483648, 1000000000, [])), ((0, 3), (0, -2147483648, 1000000000, [])), ((0, 0), (2, 0, 0, [3])), ((0, 1), (2, 0, 0, [0]))], [], 0, [], [])]
def t_Ro_frame_ct : ct_L := [(1, 114, e_Gr_half), (171, 117, e_jMath_min1_v41), (171, 117, e_jMath_min1_v43), (252, 123, e_jMath_max1_v42), (252, 123, e_jMath_max1_v44), (312, 117, e_jMath_min1_v41), (312, 117, e_jMath_min1_v43), (366, 123, e_jMath_max1_v42), (366, 123, e_jMath_max1_v44)]
set_option maxRecDepth 100000 in
theorem c_Ro_frame {l : Launch} {D : va_G} {kA : Nat → ClassId} (h_Gr_half : ct_ok l D kA GG y_Gr_half z_Gr_half e_Gr_half) : ct_ok l D kA GG y_Ro_frame z_Ro_frame e_Ro_frame := chk_all_ok (FT := [(9, 9, 0), (15, 9, 1), (19, 9, 2), (23, 9, 3), (26, 9, 4), (29, 9, 5), (108, 3, 0), (111, 0, 2), (126, 0, 3)]) (PT := [(19, 9, 2, .int), (23, 9, 3, .int), (26, 9, 4, .int), (29, 9, 5, .int)]) (CT := t_Ro_frame_ct) (KT := [(0, 94, .int (1000000000), (0, 1000000000, 1000000000, [])), (0, 107, .int (Int32.ofInt (-1000000000)), (0, -1000000000, -1000000000, [])), (2, 129, .long (6000), (1, 6000, 6000, []))]) (NT := []) (AN := n_Ro_frame_an) (OT := []) 3 412 (List.forall_mem_nil _) (by decide +kernel) ⟨List.forall_mem_cons.mpr ⟨gf_Ro_9, List.forall_mem_cons.mpr ⟨gf_Ro_15, List.forall_mem_cons.mpr ⟨gf_Ro_19, List.forall_mem_cons.mpr ⟨gf_Ro_23, List.forall_mem_cons.mpr ⟨gf_Ro_26, List.forall_mem_cons.mpr ⟨gf_Ro_29, List.forall_mem_cons.mpr ⟨gf_Ro_108, List.forall_mem_cons.mpr ⟨gf_Ro_111, List.forall_mem_cons.mpr ⟨gf_Ro_126, List.forall_mem_nil _⟩⟩⟩⟩⟩⟩⟩⟩⟩, List.forall_mem_cons.mpr ⟨pf_Ro_19, List.forall_mem_cons.mpr ⟨pf_Ro_23, List.forall_mem_cons.mpr ⟨pf_Ro_26, List.forall_mem_cons.mpr ⟨pf_Ro_29, List.forall_mem_nil _⟩⟩⟩⟩, List.forall_mem_cons.mpr ⟨cl_virtual (y := y_Gr_half) (ci := 3) rfl rfl ⟨_, _, rfl⟩ (by decide +kernel) h_Gr_half wm_1452 wm_3 wm_1932 wm_1450 wm_1451 ⟨by decide, by decide, by decide +kernel⟩ (by decide), List.forall_mem_cons.mpr ⟨cl_static (y := y_jMath_min1) c_jMath_min1_v41 wm_658 wm_10 wm_1933 wm_657 ⟨by decide, by decide, by decide +kernel⟩ (by decide), List.forall_mem_cons.mpr ⟨cl_static (y := y_jMath_min1) c_jMath_min1_v43 wm_658 wm_10 wm_1933 wm_657 ⟨by decide, by decide, by decide +kernel⟩ (by decide), List.forall_mem_cons.mpr ⟨cl_static (y := y_jMath_max1) c_jMath_max1_v42 wm_836 wm_10 wm_1934 wm_835 ⟨by decide, by decide, by decide +kernel⟩ (by decide), List.forall_mem_cons.mpr ⟨cl_static (y := y_jMath_max1) c_jMath_max1_v44 wm_836 wm_10 wm_1934 wm_835 ⟨by decide, by decide, by decide +kernel⟩ (by decide), List.forall_mem_cons.mpr ⟨cl_static (y := y_jMath_min1) c_jMath_min1_v41 wm_658 wm_10 wm_1933 wm_657 ⟨by decide, by decide, by decide +kernel⟩ (by decide), List.forall_mem_cons.mpr ⟨cl_static (y := y_jMath_min1) c_jMath_min1_v43 wm_658 wm_10 wm_1933 wm_657 ⟨by decide, by decide, by decide +kernel⟩ (by decide), List.forall_mem_cons.mpr ⟨cl_static (y := y_jMath_max1) c_jMath_max1_v42 wm_836 wm_10 wm_1934 wm_835 ⟨by decide, by decide, by decide +kernel⟩ (by decide), List.forall_mem_cons.mpr ⟨cl_static (y := y_jMath_max1) c_jMath_max1_v44 wm_836 wm_10 wm_1934 wm_835 ⟨by decide, by decide, by decide +kernel⟩ (by decide), List.forall_mem_nil _⟩⟩⟩⟩⟩⟩⟩⟩⟩, List.forall_mem_cons.mpr ⟨kx_Ro_0_94, List.forall_mem_cons.mpr ⟨kx_Ro_0_107, List.forall_mem_cons.mpr ⟨⟨kt_mk2 wm_1935, fun _ => Or.inr (Or.inl ⟨rfl, _, rfl, by decide, by decide⟩)⟩, List.forall_mem_nil _⟩⟩⟩, List.forall_mem_nil _, GG_pl⟩ (by decide +kernel)
def n_St_findRing_an : List an_T := [(10, [(0, (2, 0, 0, [10])), (1, (0, 0, 288, []))], [], (0, 0), [(0, 0, 99990), (1, 1, 288), (0, 0, 100000)], [], [], [], 0, [], [])]
def t_St_findRing_ct : ct_L := [(1, 60, e_St_raise), (1, 64, e_St_ringInBy), (18, 45, e_jArr_fill1_v46)]
set_option maxRecDepth 100000 in
theorem c_St_findRing {l : Launch} {D : va_G} {kA : Nat → ClassId} (h_St_raise : ct_ok l D kA GG y_St_raise z_St_raise e_St_raise) (h_St_ringInBy : ct_ok l D kA GG y_St_ringInBy z_St_ringInBy e_St_ringInBy) : ct_ok l D kA GG y_St_findRing z_St_findRing e_St_findRing := chk_all_ok (FT := [(34, 10, 7)]) (PT := []) (CT := t_St_findRing_ct) (KT := []) (NT := []) (AN := n_St_findRing_an) (OT := []) 3 200 (List.forall_mem_nil _) (by decide +kernel) ⟨List.forall_mem_cons.mpr ⟨gf_St_34, List.forall_mem_nil _⟩, List.forall_mem_nil _, List.forall_mem_cons.mpr ⟨cl_virtual (y := y_St_raise) (ci := 10) rfl rfl ⟨_, _, rfl⟩ (by decide +kernel) h_St_raise wm_1352 wm_19 wm_1349 wm_1351 wv_4_13 ⟨by decide, by decide, by decide +kernel⟩ (by decide), List.forall_mem_cons.mpr ⟨cl_virtual (y := y_St_ringInBy) (ci := 10) rfl rfl ⟨_, _, rfl⟩ (by decide +kernel) h_St_ringInBy wm_1356 wm_19 wm_1353 wm_1355 wv_4_14 ⟨by decide, by decide, by decide +kernel⟩ (by decide), List.forall_mem_cons.mpr ⟨cl_static (y := y_jArr_fill1) c_jArr_fill1_v46 wm_55 wm_4 wm_1343 wm_54 ⟨by decide, by decide, by decide +kernel⟩ (by decide), List.forall_mem_nil _⟩⟩⟩, List.forall_mem_nil _, List.forall_mem_nil _, GG_pl⟩ (by decide +kernel)
def n_Sy_lookAtNode_an : List an_T := [(9, [(0, (2, 0, 0, [11])), (1, (2, 0, 0, [3])), (2, (2, 0, 0, [2])), (3, (2, 0, 0, [0])), (4, (0, 0, 23, [])), (5, (0, -2147483648, 2147483647, [])), (6, (0, -2147483648, 2147483647, [])), (7, (0, 0, 48, []))], [], (0, 0), [(0, 0, 99991), (1, 7, 48), (0, 0, 100000)], [], [], [], 0, [], []), (37, [(0, (2, 0, 0, [11])), (1, (2, 0, 0, [3])), (2, (2, 0, 0, [2])), (3, (2, 0, 0, [0])), (4, (0, 0, 23, [])), (5, (0, -2147483648, 2147483647, [])), (6, (0, -2147483648, 2147483647, [])), (7, (0, 0, 47, []))], [(0, 0, 1, []), (0, -2147483648, 2147483647, [])], (0, 0), [(0, 0, 99991), (1, 7, 48), (0, 0, 99963)], [], [((1, 1), (0, 1, 48, []))], [], 0, [], []), (59, [(0, (2, 0, 0, [11])), (1, (2, 0, 0, [3])), (2, (2, 0, 0, [2])), (3, (2, 0, 0, [0])), (4, (0, 0, 23, [])), (5, (0, -2147483648, 2147483647, [])), (6, (0, -2147483648, 2147483647, [])), (7, (0, 0, 47, []))], [(0, 0, 1, []), (0, -2147483648, 2147483647, [])], (0, 0), [(0, 0, 99991), (1, 7, 48), (0, 0, 99941)], [], [((1, 1), (0, 1, 48, []))], [], 0, [], []), (81, [(0, (2, 0, 0, [11])), (1, (2, 0, 0, [3])), (2, (2, 0, 0, [2])), (3, (2, 0, 0, [0])), (4, (0, 0, 23, [])), (5, (0, -2147483648, 2147483647, [])), (6, (0, -2147483648, 2147483647, [])), (7, (0, 0, 48, []))], [(0, 0, 1, [])], (0, 0), [(0, 0, 99919), (0, 0, 0), (0, 0, 0)], [], [((3, 1), (0, -1, 7, [])), ((1, 1), (0, 0, 48, []))], [], 0, [], []), (197, [(0, (2, 0, 0, [11])), (1, (2, 0, 0, [3])), (2, (2, 0, 0, [2])), (3, (2, 0, 0, [0])), (4, (0, 0, 23, [])), (5, (0, -2147483648, 2147483647, [])), (6, (0, -2147483648, 2147483647, [])), (7, (0, 0, 1, []))], [(1, 0, 1, []), (0, 7, 7, []), (2, 0, 0, [130])], (0, 0), [(0, 0, 99803), (0, 0, 0), (0, 0, 0)], [], [((3, 1), (0, -1, 7, [])), ((1, 1), (0, 0, 48, []))], [], 0, [], []), (221, [(0, (2, 0, 0, [11])), (1, (2, 0, 0, [3])), (2, (2, 0, 0, [2])), (3, (2, 0, 0, [0])), (4, (0, 0, 23, [])), (5, (0, -2147483648, 2147483647, [])), (6, (0, -2147483648, 2147483647, [])), (7, (0, 0, 1, []))], [(1, -2147483648, 2147483647, []), (0, 8, 8, []), (2, 0, 0, [130])], (0, 0), [(0, 0, 99779), (0, 0, 0), (0, 0, 0)], [], [((3, 1), (0, -1, 7, [])), ((1, 1), (0, 0, 48, []))], [], 0, [], []), (245, [(0, (2, 0, 0, [11])), (1, (2, 0, 0, [3])), (2, (2, 0, 0, [2])), (3, (2, 0, 0, [0])), (4, (0, 0, 23, [])), (5, (0, -2147483648, 2147483647, [])), (6, (0, -2147483648, 2147483647, [])), (7, (0, 0, 1, []))], [(1, -2147483648, 2147483647, []), (0, 9, 9, []), (2, 0, 0, [130])], (0, 0), [(0, 0, 99755), (0, 0, 0), (0, 0, 0)], [], [((3, 1), (0, -1, 7, [])), ((1, 1), (0, 0, 48, []))], [], 0, [], [])]
def t_Sy_lookAtNode_ct : ct_L := [(1, 214, e_Gr_distance), (288, 203, e_jInt_bitCount_v7)]
set_option maxRecDepth 100000 in
theorem c_Sy_lookAtNode {l : Launch} {D : va_G} {kA : Nat → ClassId} (h_Gr_distance : ct_ok l D kA GG y_Gr_distance z_Gr_distance e_Gr_distance) : ct_ok l D kA GG y_Sy_lookAtNode z_Sy_lookAtNode e_Sy_lookAtNode := chk_all_ok (FT := [(66, 11, 16), (185, 3, 1), (191, 3, 8), (194, 3, 7), (197, 0, 1), (200, 3, 14), (208, 3, 5), (211, 3, 6), (217, 2, 7), (222, 2, 8), (225, 0, 2), (228, 0, 3)]) (PT := []) (CT := t_Sy_lookAtNode_ct) (KT := []) (NT := []) (AN := n_Sy_lookAtNode_an) (OT := []) 3 568 (List.forall_mem_nil _) (by decide +kernel) ⟨List.forall_mem_cons.mpr ⟨gf_Sy_66, List.forall_mem_cons.mpr ⟨gf_Sy_185, List.forall_mem_cons.mpr ⟨gf_Sy_191, List.forall_mem_cons.mpr ⟨gf_Sy_194, List.forall_mem_cons.mpr ⟨gf_Sy_197, List.forall_mem_cons.mpr ⟨gf_Sy_200, List.forall_mem_cons.mpr ⟨gf_Sy_208, List.forall_mem_cons.mpr ⟨gf_Sy_211, List.forall_mem_cons.mpr ⟨gf_Sy_217, List.forall_mem_cons.mpr ⟨gf_Sy_222, List.forall_mem_cons.mpr ⟨gf_Sy_225, List.forall_mem_cons.mpr ⟨gf_Sy_228, List.forall_mem_nil _⟩⟩⟩⟩⟩⟩⟩⟩⟩⟩⟩⟩, List.forall_mem_nil _, List.forall_mem_cons.mpr ⟨cl_virtual (y := y_Gr_distance) (ci := 3) rfl rfl ⟨_, _, rfl⟩ (by decide +kernel) h_Gr_distance wm_1021 wm_3 wm_2292 wm_1019 wm_1020 ⟨by decide, by decide, by decide +kernel⟩ (by decide), List.forall_mem_cons.mpr ⟨cl_static (y := y_jInt_bitCount) c_jInt_bitCount_v7 wm_870 wm_17 wm_2291 wm_869 ⟨by decide, by decide, by decide +kernel⟩ (by decide), List.forall_mem_nil _⟩⟩, List.forall_mem_nil _, List.forall_mem_nil _, GG_pl⟩ (by decide +kernel)
def n_Mo_isLonger_an : List an_T := []
def t_Mo_isLonger_ct : ct_L := [(0, 1091, e_Mo_turnOf), (240, 1097, e_jMath_max2_v47), (261, 1097, e_jMath_max2_v47), (270, 1095, e_jMath_min2_v48), (288, 1095, e_jMath_min2_v48), (309, 1095, e_jMath_min2_v48), (318, 1097, e_jMath_max2_v47), (345, 1097, e_jMath_max2_v47), (366, 1097, e_jMath_max2_v47), (375, 1095, e_jMath_min2_v48), (393, 1095, e_jMath_min2_v48), (414, 1095, e_jMath_min2_v48), (423, 1097, e_jMath_max2_v47)]
set_option maxRecDepth 100000 in
theorem c_Mo_isLonger {l : Launch} {D : va_G} {kA : Nat → ClassId} (h_Mo_turnOf : ct_ok l D kA GG y_Mo_turnOf z_Mo_turnOf e_Mo_turnOf) : ct_ok l D kA GG y_Mo_isLonger z_Mo_isLonger e_Mo_isLonger := chk_all_ok (FT := []) (PT := []) (CT := t_Mo_isLonger_ct) (KT := []) (NT := []) (AN := n_Mo_isLonger_an) (OT := []) 0 400 (List.forall_mem_nil _) (by decide +kernel) ⟨List.forall_mem_nil _, List.forall_mem_nil _, List.forall_mem_cons.mpr ⟨cl_static (y := y_Mo_turnOf) h_Mo_turnOf wm_3745 wm_9 wm_3743 wm_3744 ⟨by decide, by decide, by decide +kernel⟩ (by decide), List.forall_mem_cons.mpr ⟨cl_static (y := y_jMath_max2) c_jMath_max2_v47 wm_1750 wm_10 wm_3757 wm_1749 ⟨by decide, by decide, by decide +kernel⟩ (by decide), List.forall_mem_cons.mpr ⟨cl_static (y := y_jMath_max2) c_jMath_max2_v47 wm_1750 wm_10 wm_3757 wm_1749 ⟨by decide, by decide, by decide +kernel⟩ (by decide), List.forall_mem_cons.mpr ⟨cl_static (y := y_jMath_min2) c_jMath_min2_v48 wm_1753 wm_10 wm_3756 wm_1752 ⟨by decide, by decide, by decide +kernel⟩ (by decide), List.forall_mem_cons.mpr ⟨cl_static (y := y_jMath_min2) c_jMath_min2_v48 wm_1753 wm_10 wm_3756 wm_1752 ⟨by decide, by decide, by decide +kernel⟩ (by decide), List.forall_mem_cons.mpr ⟨cl_static (y := y_jMath_min2) c_jMath_min2_v48 wm_1753 wm_10 wm_3756 wm_1752 ⟨by decide, by decide, by decide +kernel⟩ (by decide), List.forall_mem_cons.mpr ⟨cl_static (y := y_jMath_max2) c_jMath_max2_v47 wm_1750 wm_10 wm_3757 wm_1749 ⟨by decide, by decide, by decide +kernel⟩ (by decide), List.forall_mem_cons.mpr ⟨cl_static (y := y_jMath_max2) c_jMath_max2_v47 wm_1750 wm_10 wm_3757 wm_1749 ⟨by decide, by decide, by decide +kernel⟩ (by decide), List.forall_mem_cons.mpr ⟨cl_static (y := y_jMath_max2) c_jMath_max2_v47 wm_1750 wm_10 wm_3757 wm_1749 ⟨by decide, by decide, by decide +kernel⟩ (by decide), List.forall_mem_cons.mpr ⟨cl_static (y := y_jMath_min2) c_jMath_min2_v48 wm_1753 wm_10 wm_3756 wm_1752 ⟨by decide, by decide, by decide +kernel⟩ (by decide), List.forall_mem_cons.mpr ⟨cl_static (y := y_jMath_min2) c_jMath_min2_v48 wm_1753 wm_10 wm_3756 wm_1752 ⟨by decide, by decide, by decide +kernel⟩ (by decide), List.forall_mem_cons.mpr ⟨cl_static (y := y_jMath_min2) c_jMath_min2_v48 wm_1753 wm_10 wm_3756 wm_1752 ⟨by decide, by decide, by decide +kernel⟩ (by decide), List.forall_mem_cons.mpr ⟨cl_static (y := y_jMath_max2) c_jMath_max2_v47 wm_1750 wm_10 wm_3757 wm_1749 ⟨by decide, by decide, by decide +kernel⟩ (by decide), List.forall_mem_nil _⟩⟩⟩⟩⟩⟩⟩⟩⟩⟩⟩⟩⟩, List.forall_mem_nil _, List.forall_mem_nil _, GG_pl⟩ (by decide +kernel)
