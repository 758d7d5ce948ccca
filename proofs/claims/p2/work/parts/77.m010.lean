def n_Mo_far_an : List an_T := []
def t_Mo_far_ct : ct_L := [(0, 387, e_Mo_in), (0, 521, e_Mo_isPlace), (1, 475, e_Mo_nodes), (1, 527, e_Mo_take), (1, 550, e_Mo_farFrom)]
set_option maxRecDepth 100000 in
theorem c_Mo_far {l : Launch} {D : va_G} {kA : Nat → ClassId} (h_Mo_farFrom : ct_ok l D kA GG y_Mo_farFrom z_Mo_farFrom e_Mo_farFrom) (h_Mo_in : ct_ok l D kA GG y_Mo_in z_Mo_in e_Mo_in) (h_Mo_isPlace : ct_ok l D kA GG y_Mo_isPlace z_Mo_isPlace e_Mo_isPlace) (h_Mo_nodes : ct_ok l D kA GG y_Mo_nodes z_Mo_nodes e_Mo_nodes) (h_Mo_take : ct_ok l D kA GG y_Mo_take z_Mo_take e_Mo_take) : ct_ok l D kA GG y_Mo_far z_Mo_far e_Mo_far := chk_all_ok (FT := [(38, 13, 19)]) (PT := []) (CT := t_Mo_far_ct) (KT := [(1, 546, .int (1000000), (0, 1000000, 1000000, []))]) (NT := []) (AN := n_Mo_far_an) (OT := []) 0 228 (List.forall_mem_nil _) (by decide +kernel) ⟨List.forall_mem_cons.mpr ⟨gf_Mo_38, List.forall_mem_nil _⟩, List.forall_mem_nil _, List.forall_mem_cons.mpr ⟨cl_static (y := y_Mo_in) h_Mo_in wm_2971 wm_9 wm_2969 wm_2970 ⟨by decide, by decide, by decide +kernel⟩ (by decide), List.forall_mem_cons.mpr ⟨cl_static (y := y_Mo_isPlace) h_Mo_isPlace wm_2978 wm_9 wm_2976 wm_2977 ⟨by decide, by decide, by decide +kernel⟩ (by decide), List.forall_mem_cons.mpr ⟨cl_virtual (y := y_Mo_nodes) (ci := 13) rfl rfl ⟨_, _, rfl⟩ (by decide +kernel) h_Mo_nodes wm_3025 wm_9 wm_3022 wm_3024 wv_13_3 ⟨by decide, by decide, by decide +kernel⟩ (by decide), List.forall_mem_cons.mpr ⟨cl_virtual (y := y_Mo_take) (ci := 13) rfl rfl ⟨_, _, rfl⟩ (by decide +kernel) h_Mo_take wm_3091 wm_9 wm_3088 wm_3090 wv_14_2 ⟨by decide, by decide, by decide +kernel⟩ (by decide), List.forall_mem_cons.mpr ⟨cl_virtual (y := y_Mo_farFrom) (ci := 13) rfl rfl ⟨_, _, rfl⟩ (by decide +kernel) h_Mo_farFrom wm_3287 wm_9 wm_3284 wm_3286 wv_16_12 ⟨by decide, by decide, by decide +kernel⟩ (by decide), List.forall_mem_nil _⟩⟩⟩⟩⟩, List.forall_mem_cons.mpr ⟨kx_Mo_1_546, List.forall_mem_nil _⟩, List.forall_mem_nil _, GG_pl⟩ (by decide +kernel)
def n_Mo_group_an : List an_T := []
def t_Mo_group_ct : ct_L := [(0, 387, e_Mo_in), (0, 521, e_Mo_isPlace), (1, 509, e_Mo_groups), (1, 527, e_Mo_take), (1, 745, e_Mo_sizeOfGroup)]
set_option maxRecDepth 100000 in
theorem c_Mo_group {l : Launch} {D : va_G} {kA : Nat → ClassId} (h_Mo_groups : ct_ok l D kA GG y_Mo_groups z_Mo_groups e_Mo_groups) (h_Mo_in : ct_ok l D kA GG y_Mo_in z_Mo_in e_Mo_in) (h_Mo_isPlace : ct_ok l D kA GG y_Mo_isPlace z_Mo_isPlace e_Mo_isPlace) (h_Mo_sizeOfGroup : ct_ok l D kA GG y_Mo_sizeOfGroup z_Mo_sizeOfGroup e_Mo_sizeOfGroup) (h_Mo_take : ct_ok l D kA GG y_Mo_take z_Mo_take e_Mo_take) : ct_ok l D kA GG y_Mo_group z_Mo_group e_Mo_group := chk_all_ok (FT := [(16, 13, 2), (391, 13, 5)]) (PT := []) (CT := t_Mo_group_ct) (KT := []) (NT := []) (AN := n_Mo_group_an) (OT := []) 0 252 (List.forall_mem_nil _) (by decide +kernel) ⟨List.forall_mem_cons.mpr ⟨gf_Mo_16, List.forall_mem_cons.mpr ⟨gf_Mo_391, List.forall_mem_nil _⟩⟩, List.forall_mem_nil _, List.forall_mem_cons.mpr ⟨cl_static (y := y_Mo_in) h_Mo_in wm_2971 wm_9 wm_2969 wm_2970 ⟨by decide, by decide, by decide +kernel⟩ (by decide), List.forall_mem_cons.mpr ⟨cl_static (y := y_Mo_isPlace) h_Mo_isPlace wm_2978 wm_9 wm_2976 wm_2977 ⟨by decide, by decide, by decide +kernel⟩ (by decide), List.forall_mem_cons.mpr ⟨cl_virtual (y := y_Mo_groups) (ci := 13) rfl rfl ⟨_, _, rfl⟩ (by decide +kernel) h_Mo_groups wm_3070 wm_9 wm_3067 wm_3069 wv_13_14 ⟨by decide, by decide, by decide +kernel⟩ (by decide), List.forall_mem_cons.mpr ⟨cl_virtual (y := y_Mo_take) (ci := 13) rfl rfl ⟨_, _, rfl⟩ (by decide +kernel) h_Mo_take wm_3091 wm_9 wm_3088 wm_3090 wv_14_2 ⟨by decide, by decide, by decide +kernel⟩ (by decide), List.forall_mem_cons.mpr ⟨cl_virtual (y := y_Mo_sizeOfGroup) (ci := 13) rfl rfl ⟨_, _, rfl⟩ (by decide +kernel) h_Mo_sizeOfGroup wm_3351 wm_9 wm_3348 wm_3350 wv_17_9 ⟨by decide, by decide, by decide +kernel⟩ (by decide), List.forall_mem_nil _⟩⟩⟩⟩⟩, List.forall_mem_nil _, List.forall_mem_nil _, GG_pl⟩ (by decide +kernel)
def o_Re_isWord_at_s5000_0 : or_T := (28, 9, [(0, (2, 0, 0, [8])), (4, (0, 4, 2000, [])), (5, (0, 0, 2000, [])), (6, (0, 4, 4, [])), (7, (0, 4, 4, []))], [(7, [6, 7], [0]), (2, [6, 4, 5], []), (9, [5, 0], [8]), (9, [4, 0], [6])], [], [], [(20, [0], [30, 1996, 1, 1, 8])], [], [(6, 4, -2000, 0)])
theorem oo_Re_isWord_at_s5000_0 {kA : Nat → ClassId} : or_ok kA GG o_Re_isWord_at_s5000_0 := by
  intro A ta ws vs hD hth hl hk hds hf
  have hl : vs.length = 9 := hl
  have hk : ∀ q ∈ ([(0, (2, 0, 0, [8])), (4, (0, 4, 2000, [])), (5, (0, 0, 2000, [])), (6, (0, 4, 4, [])), (7, (0, 4, 4, []))] : List (Nat × tv_T)), tv_ok ta q.2 (n_v vs q.1) := hk
  obtain ⟨t0, hk⟩ := List.forall_mem_cons.mp hk
  have t0 : tv_ok ta (2, 0, 0, [8]) (n_v vs 0) := t0
  have r0 : ta (v_ad (n_v vs 0)) = some 8 := tv_rg t0
  obtain ⟨t4, hk⟩ := List.forall_mem_cons.mp hk
  have t4 : tv_ok ta (0, 4, 2000, []) (n_v vs 4) := t4
  have k4 : 4 ≤ v_iv (n_v vs 4) ∧ v_iv (n_v vs 4) ≤ 2000 := tv_rng t4
  obtain ⟨t5, hk⟩ := List.forall_mem_cons.mp hk
  have t5 : tv_ok ta (0, 0, 2000, []) (n_v vs 5) := t5
  have k5 : 0 ≤ v_iv (n_v vs 5) ∧ v_iv (n_v vs 5) ≤ 2000 := tv_rng t5
  obtain ⟨t6, hk⟩ := List.forall_mem_cons.mp hk
  have t6 : tv_ok ta (0, 4, 4, []) (n_v vs 6) := t6
  have k6 : 4 ≤ v_iv (n_v vs 6) ∧ v_iv (n_v vs 6) ≤ 4 := tv_rng t6
  obtain ⟨t7, hk⟩ := List.forall_mem_cons.mp hk
  have t7 : tv_ok ta (0, 4, 4, []) (n_v vs 7) := t7
  have k7 : 4 ≤ v_iv (n_v vs 7) ∧ v_iv (n_v vs 7) ≤ 4 := tv_rng t7
  have hds : ∀ q ∈ ([(6, 4, -2000, 0)] : List of_T), n_iv vs q.2.1 + q.2.2.1 ≤ n_iv vs q.1 ∧ n_iv vs q.1 ≤ n_iv vs q.2.1 + q.2.2.2 := hds
  obtain ⟨d0, hds⟩ := List.forall_mem_cons.mp hds
  have d0 : v_iv (n_v vs 4) + (-2000) ≤ v_iv (n_v vs 6) ∧ v_iv (n_v vs 6) ≤ v_iv (n_v vs 4) + 0 := d0
  have hf : fc_ok [(7, [6, 7], [0]), (2, [6, 4, 5], []), (9, [5, 0], [8]), (9, [4, 0], [6])] ta ws vs := hf
  obtain ⟨f0, hf⟩ := fc_un (show (7 : Nat) < 100 from by decide) hf
  have f0 : v_iv (n_v vs 6) = v_iv (n_v vs 7) := f0
  obtain ⟨f1, hf⟩ := fc_un (show (2 : Nat) < 100 from by decide) hf
  have f1 : v_iv (n_v vs 6) = v_iv (n_v vs 4) - v_iv (n_v vs 5) := f1
  obtain ⟨f2, hf⟩ := fc_un (show (9 : Nat) < 100 from by decide) hf
  have f2 : n_v vs 5 = w_fd ws (v_ad (n_v vs 0)) 8 := f2
  obtain ⟨f3, hf⟩ := fc_un (show (9 : Nat) < 100 from by decide) hf
  have f3 : n_v vs 4 = w_fd ws (v_ad (n_v vs 0)) 6 := f3
  have g2 : v_iv (n_v vs 5) = w_fi ws (n_v vs 0) 8 := congrArg v_iv f2
  have g3 : v_iv (n_v vs 4) = w_fi ws (n_v vs 0) 6 := congrArg v_iv f3
  have kz_0_6 : 0 ≤ w_fi ws (n_v vs 0) 6 ∧ w_fi ws (n_v vs 0) 6 ≤ 2000 := tv_rng (th_fd hD hth r0 (g := GG_8) rfl (k := 6) (t := (0, 0, 2000, [])) rfl rfl)
  have kz_0_8 : 0 ≤ w_fi ws (n_v vs 0) 8 ∧ w_fi ws (n_v vs 0) 8 ≤ 2000 := tv_rng (th_fd hD hth r0 (g := GG_8) rfl (k := 8) (t := (0, 0, 2000, [])) rfl rfl)
  have nf0 : fc_1 (20, [0], [30, 1996, 1, 1, 8]) ws (vs) := by
    refine ⟨fun n hn => ?_, ?_⟩
    · have hn : n ∈ [0] := hn
      rw [hl]
      simp only [List.mem_cons, List.not_mem_nil, or_false] at hn
      show n < 9; omega
    · show 1 * w_fi ws (n_v vs 0) 8 + 0 ≤ 1996
      omega
  refine ⟨(fun _ h => (by cases h)), [], trivial, ?_, (fun _ h => (by cases h))⟩
  rw [List.append_nil]
  exact List.forall_mem_cons.mpr ⟨⟨show (20 : Nat) < 100 from by decide, nf0⟩, (fun _ h => (by cases h))⟩
def o_Re_isWord_at_s5000_1 : or_T := (46, 7, [(0, (2, 0, 0, [8])), (2, (0, 0, 3, [])), (3, (0, 4, 4, [])), (5, (0, 0, 2000, [])), (6, (0, 0, 2003, []))], [(1, [6, 5, 2], []), (9, [5, 0], [8]), (7, [2, 3], [2]), (20, [0], [30, 1996, 1, 1, 8])], [(6, (0, 0, 1999, []))], [], [], [], [(6, 2, 0, 2000), (6, 5, 0, 3)])
theorem oo_Re_isWord_at_s5000_1 {kA : Nat → ClassId} : or_ok kA GG o_Re_isWord_at_s5000_1 := by
  intro A ta ws vs hD hth hl hk hds hf
  have hl : vs.length = 7 := hl
  have hk : ∀ q ∈ ([(0, (2, 0, 0, [8])), (2, (0, 0, 3, [])), (3, (0, 4, 4, [])), (5, (0, 0, 2000, [])), (6, (0, 0, 2003, []))] : List (Nat × tv_T)), tv_ok ta q.2 (n_v vs q.1) := hk
  obtain ⟨t0, hk⟩ := List.forall_mem_cons.mp hk
  have t0 : tv_ok ta (2, 0, 0, [8]) (n_v vs 0) := t0
  have r0 : ta (v_ad (n_v vs 0)) = some 8 := tv_rg t0
  obtain ⟨t2, hk⟩ := List.forall_mem_cons.mp hk
  have t2 : tv_ok ta (0, 0, 3, []) (n_v vs 2) := t2
  have k2 : 0 ≤ v_iv (n_v vs 2) ∧ v_iv (n_v vs 2) ≤ 3 := tv_rng t2
  obtain ⟨t3, hk⟩ := List.forall_mem_cons.mp hk
  have t3 : tv_ok ta (0, 4, 4, []) (n_v vs 3) := t3
  have k3 : 4 ≤ v_iv (n_v vs 3) ∧ v_iv (n_v vs 3) ≤ 4 := tv_rng t3
  obtain ⟨t5, hk⟩ := List.forall_mem_cons.mp hk
  have t5 : tv_ok ta (0, 0, 2000, []) (n_v vs 5) := t5
  have k5 : 0 ≤ v_iv (n_v vs 5) ∧ v_iv (n_v vs 5) ≤ 2000 := tv_rng t5
  obtain ⟨t6, hk⟩ := List.forall_mem_cons.mp hk
  have t6 : tv_ok ta (0, 0, 2003, []) (n_v vs 6) := t6
  have k6 : 0 ≤ v_iv (n_v vs 6) ∧ v_iv (n_v vs 6) ≤ 2003 := tv_rng t6
  have hds : ∀ q ∈ ([(6, 2, 0, 2000), (6, 5, 0, 3)] : List of_T), n_iv vs q.2.1 + q.2.2.1 ≤ n_iv vs q.1 ∧ n_iv vs q.1 ≤ n_iv vs q.2.1 + q.2.2.2 := hds
  obtain ⟨d0, hds⟩ := List.forall_mem_cons.mp hds
  have d0 : v_iv (n_v vs 2) + 0 ≤ v_iv (n_v vs 6) ∧ v_iv (n_v vs 6) ≤ v_iv (n_v vs 2) + 2000 := d0
  obtain ⟨d1, hds⟩ := List.forall_mem_cons.mp hds
  have d1 : v_iv (n_v vs 5) + 0 ≤ v_iv (n_v vs 6) ∧ v_iv (n_v vs 6) ≤ v_iv (n_v vs 5) + 3 := d1
  have hf : fc_ok [(1, [6, 5, 2], []), (9, [5, 0], [8]), (7, [2, 3], [2]), (20, [0], [30, 1996, 1, 1, 8])] ta ws vs := hf
  obtain ⟨f0, hf⟩ := fc_un (show (1 : Nat) < 100 from by decide) hf
  have f0 : v_iv (n_v vs 6) = v_iv (n_v vs 5) + v_iv (n_v vs 2) := f0
  obtain ⟨f1, hf⟩ := fc_un (show (9 : Nat) < 100 from by decide) hf
  have f1 : n_v vs 5 = w_fd ws (v_ad (n_v vs 0)) 8 := f1
  obtain ⟨f2, hf⟩ := fc_un (show (7 : Nat) < 100 from by decide) hf
  have f2 : v_iv (n_v vs 2) < v_iv (n_v vs 3) := f2
  obtain ⟨f3, hf⟩ := fc_un (show (20 : Nat) < 100 from by decide) hf
  have f3 : 1 * w_fi ws (n_v vs 0) 8 + 0 ≤ 1996 := f3
  have g1 : v_iv (n_v vs 5) = w_fi ws (n_v vs 0) 8 := congrArg v_iv f1
  have kz_0_8 : 0 ≤ w_fi ws (n_v vs 0) 8 ∧ w_fi ws (n_v vs 0) 8 ≤ 2000 := tv_rng (th_fd hD hth r0 (g := GG_8) rfl (k := 8) (t := (0, 0, 2000, [])) rfl rfl)
  have rf6 : tv_ok ta (0, 0, 1999, []) (n_v vs 6) := tv_in t6 (by omega) (by omega)
  refine ⟨List.forall_mem_cons.mpr ⟨rf6, (fun _ h => (by cases h))⟩, [], trivial, ?_, (fun _ h => (by cases h))⟩
  rw [List.append_nil]
  exact (fun _ h => (by cases h))
def n_Re_isWord_at_s5000_an : List an_T := [(28, [(0, (2, 0, 0, [8])), (1, (2, 0, 0, [5000])), (2, (0, 0, 4, []))], [], (0, 0), [(0, 0, 99972), (1, 2, 4), (0, 0, 100000)], [], [], [], 0, [], [(20, [0], [30, 1996, 1, 1, 8])])]
def t_Re_isWord_at_s5000_ct : ct_L := [(58, 84, e_jStr_length_v168), (94, 84, e_jStr_length_v168), (151, 89, e_jStr_charAt_v170)]
set_option maxRecDepth 100000 in
theorem c_Re_isWord_at_s5000 {l : Launch} {D : va_G} {kA : Nat → ClassId} : ct_ok l D kA GG y_Re_isWord_at_s5000 z_Re_isWord_at_s5000 e_Re_isWord_at_s5000 := chk_all_ok (FT := [(9, 8, 0), (35, 8, 6), (38, 8, 7), (41, 8, 8)]) (PT := []) (CT := t_Re_isWord_at_s5000_ct) (KT := []) (NT := []) (AN := n_Re_isWord_at_s5000_an) (OT := [o_Re_isWord_at_s5000_0, o_Re_isWord_at_s5000_1]) 3 200 (List.forall_mem_cons.mpr ⟨oo_Re_isWord_at_s5000_0, List.forall_mem_cons.mpr ⟨oo_Re_isWord_at_s5000_1, List.forall_mem_nil _⟩⟩) (by decide +kernel) ⟨List.forall_mem_cons.mpr ⟨gf_Re_9, List.forall_mem_cons.mpr ⟨gf_Re_35, List.forall_mem_cons.mpr ⟨gf_Re_38, List.forall_mem_cons.mpr ⟨gf_Re_41, List.forall_mem_nil _⟩⟩⟩⟩, List.forall_mem_nil _, List.forall_mem_cons.mpr ⟨cl_string (y := y_jStr_length) (i := 0) rfl rfl (by decide +kernel) rfl c_jStr_length_v168 wm_674 wm_11 wm_671 wm_672 wm_673 ⟨by decide, by decide, by decide +kernel⟩ (by decide), List.forall_mem_cons.mpr ⟨cl_string (y := y_jStr_length) (i := 0) rfl rfl (by decide +kernel) rfl c_jStr_length_v168 wm_674 wm_11 wm_671 wm_672 wm_673 ⟨by decide, by decide, by decide +kernel⟩ (by decide), List.forall_mem_cons.mpr ⟨cl_string (y := y_jStr_charAt) (i := 0) rfl rfl (by decide +kernel) rfl c_jStr_charAt_v170 wm_684 wm_11 wm_681 wm_682 wm_683 ⟨by decide, by decide, by decide +kernel⟩ (by decide), List.forall_mem_nil _⟩⟩⟩, List.forall_mem_nil _, List.forall_mem_nil _, GG_pl⟩ (by decide +kernel)
def o_Re_isWord_at_s5001_0 : or_T := (28, 9, [(0, (2, 0, 0, [8])), (4, (0, 5, 2000, [])), (5, (0, 0, 2000, [])), (6, (0, 5, 5, [])), (7, (0, 5, 5, []))], [(7, [6, 7], [0]), (2, [6, 4, 5], []), (9, [5, 0], [8]), (9, [4, 0], [6])], [], [], [(20, [0], [30, 1995, 1, 1, 8])], [], [(6, 4, -2000, 0)])
theorem oo_Re_isWord_at_s5001_0 {kA : Nat → ClassId} : or_ok kA GG o_Re_isWord_at_s5001_0 := by
  intro A ta ws vs hD hth hl hk hds hf
  have hl : vs.length = 9 := hl
  have hk : ∀ q ∈ ([(0, (2, 0, 0, [8])), (4, (0, 5, 2000, [])), (5, (0, 0, 2000, [])), (6, (0, 5, 5, [])), (7, (0, 5, 5, []))] : List (Nat × tv_T)), tv_ok ta q.2 (n_v vs q.1) := hk
  obtain ⟨t0, hk⟩ := List.forall_mem_cons.mp hk
  have t0 : tv_ok ta (2, 0, 0, [8]) (n_v vs 0) := t0
  have r0 : ta (v_ad (n_v vs 0)) = some 8 := tv_rg t0
  obtain ⟨t4, hk⟩ := List.forall_mem_cons.mp hk
  have t4 : tv_ok ta (0, 5, 2000, []) (n_v vs 4) := t4
  have k4 : 5 ≤ v_iv (n_v vs 4) ∧ v_iv (n_v vs 4) ≤ 2000 := tv_rng t4
  obtain ⟨t5, hk⟩ := List.forall_mem_cons.mp hk
  have t5 : tv_ok ta (0, 0, 2000, []) (n_v vs 5) := t5
  have k5 : 0 ≤ v_iv (n_v vs 5) ∧ v_iv (n_v vs 5) ≤ 2000 := tv_rng t5
  obtain ⟨t6, hk⟩ := List.forall_mem_cons.mp hk
  have t6 : tv_ok ta (0, 5, 5, []) (n_v vs 6) := t6
  have k6 : 5 ≤ v_iv (n_v vs 6) ∧ v_iv (n_v vs 6) ≤ 5 := tv_rng t6
  obtain ⟨t7, hk⟩ := List.forall_mem_cons.mp hk
  have t7 : tv_ok ta (0, 5, 5, []) (n_v vs 7) := t7
  have k7 : 5 ≤ v_iv (n_v vs 7) ∧ v_iv (n_v vs 7) ≤ 5 := tv_rng t7
  have hds : ∀ q ∈ ([(6, 4, -2000, 0)] : List of_T), n_iv vs q.2.1 + q.2.2.1 ≤ n_iv vs q.1 ∧ n_iv vs q.1 ≤ n_iv vs q.2.1 + q.2.2.2 := hds
  obtain ⟨d0, hds⟩ := List.forall_mem_cons.mp hds
  have d0 : v_iv (n_v vs 4) + (-2000) ≤ v_iv (n_v vs 6) ∧ v_iv (n_v vs 6) ≤ v_iv (n_v vs 4) + 0 := d0
  have hf : fc_ok [(7, [6, 7], [0]), (2, [6, 4, 5], []), (9, [5, 0], [8]), (9, [4, 0], [6])] ta ws vs := hf
  obtain ⟨f0, hf⟩ := fc_un (show (7 : Nat) < 100 from by decide) hf
  have f0 : v_iv (n_v vs 6) = v_iv (n_v vs 7) := f0
  obtain ⟨f1, hf⟩ := fc_un (show (2 : Nat) < 100 from by decide) hf
  have f1 : v_iv (n_v vs 6) = v_iv (n_v vs 4) - v_iv (n_v vs 5) := f1
  obtain ⟨f2, hf⟩ := fc_un (show (9 : Nat) < 100 from by decide) hf
  have f2 : n_v vs 5 = w_fd ws (v_ad (n_v vs 0)) 8 := f2
  obtain ⟨f3, hf⟩ := fc_un (show (9 : Nat) < 100 from by decide) hf
  have f3 : n_v vs 4 = w_fd ws (v_ad (n_v vs 0)) 6 := f3
  have g2 : v_iv (n_v vs 5) = w_fi ws (n_v vs 0) 8 := congrArg v_iv f2
  have g3 : v_iv (n_v vs 4) = w_fi ws (n_v vs 0) 6 := congrArg v_iv f3
  have kz_0_6 : 0 ≤ w_fi ws (n_v vs 0) 6 ∧ w_fi ws (n_v vs 0) 6 ≤ 2000 := tv_rng (th_fd hD hth r0 (g := GG_8) rfl (k := 6) (t := (0, 0, 2000, [])) rfl rfl)
  have kz_0_8 : 0 ≤ w_fi ws (n_v vs 0) 8 ∧ w_fi ws (n_v vs 0) 8 ≤ 2000 := tv_rng (th_fd hD hth r0 (g := GG_8) rfl (k := 8) (t := (0, 0, 2000, [])) rfl rfl)
  have nf0 : fc_1 (20, [0], [30, 1995, 1, 1, 8]) ws (vs) := by
    refine ⟨fun n hn => ?_, ?_⟩
    · have hn : n ∈ [0] := hn
      rw [hl]
      simp only [List.mem_cons, List.not_mem_nil, or_false] at hn
      show n < 9; omega
    · show 1 * w_fi ws (n_v vs 0) 8 + 0 ≤ 1995
      omega
  refine ⟨(fun _ h => (by cases h)), [], trivial, ?_, (fun _ h => (by cases h))⟩
  rw [List.append_nil]
  exact List.forall_mem_cons.mpr ⟨⟨show (20 : Nat) < 100 from by decide, nf0⟩, (fun _ h => (by cases h))⟩
def o_Re_isWord_at_s5001_1 : or_T := (46, 7, [(0, (2, 0, 0, [8])), (2, (0, 0, 4, [])), (3, (0, 5, 5, [])), (5, (0, 0, 2000, [])), (6, (0, 0, 2004, []))], [(1, [6, 5, 2], []), (9, [5, 0], [8]), (7, [2, 3], [2]), (20, [0], [30, 1995, 1, 1, 8])], [(6, (0, 0, 1999, []))], [], [], [], [(6, 2, 0, 2000), (6, 5, 0, 4)])
theorem oo_Re_isWord_at_s5001_1 {kA : Nat → ClassId} : or_ok kA GG o_Re_isWord_at_s5001_1 := by
  intro A ta ws vs hD hth hl hk hds hf
  have hl : vs.length = 7 := hl
  have hk : ∀ q ∈ ([(0, (2, 0, 0, [8])), (2, (0, 0, 4, [])), (3, (0, 5, 5, [])), (5, (0, 0, 2000, [])), (6, (0, 0, 2004, []))] : List (Nat × tv_T)), tv_ok ta q.2 (n_v vs q.1) := hk
  obtain ⟨t0, hk⟩ := List.forall_mem_cons.mp hk
  have t0 : tv_ok ta (2, 0, 0, [8]) (n_v vs 0) := t0
  have r0 : ta (v_ad (n_v vs 0)) = some 8 := tv_rg t0
  obtain ⟨t2, hk⟩ := List.forall_mem_cons.mp hk
  have t2 : tv_ok ta (0, 0, 4, []) (n_v vs 2) := t2
  have k2 : 0 ≤ v_iv (n_v vs 2) ∧ v_iv (n_v vs 2) ≤ 4 := tv_rng t2
  obtain ⟨t3, hk⟩ := List.forall_mem_cons.mp hk
  have t3 : tv_ok ta (0, 5, 5, []) (n_v vs 3) := t3
  have k3 : 5 ≤ v_iv (n_v vs 3) ∧ v_iv (n_v vs 3) ≤ 5 := tv_rng t3
  obtain ⟨t5, hk⟩ := List.forall_mem_cons.mp hk
  have t5 : tv_ok ta (0, 0, 2000, []) (n_v vs 5) := t5
  have k5 : 0 ≤ v_iv (n_v vs 5) ∧ v_iv (n_v vs 5) ≤ 2000 := tv_rng t5
  obtain ⟨t6, hk⟩ := List.forall_mem_cons.mp hk
  have t6 : tv_ok ta (0, 0, 2004, []) (n_v vs 6) := t6
  have k6 : 0 ≤ v_iv (n_v vs 6) ∧ v_iv (n_v vs 6) ≤ 2004 := tv_rng t6
  have hds : ∀ q ∈ ([(6, 2, 0, 2000), (6, 5, 0, 4)] : List of_T), n_iv vs q.2.1 + q.2.2.1 ≤ n_iv vs q.1 ∧ n_iv vs q.1 ≤ n_iv vs q.2.1 + q.2.2.2 := hds
  obtain ⟨d0, hds⟩ := List.forall_mem_cons.mp hds
  have d0 : v_iv (n_v vs 2) + 0 ≤ v_iv (n_v vs 6) ∧ v_iv (n_v vs 6) ≤ v_iv (n_v vs 2) + 2000 := d0
  obtain ⟨d1, hds⟩ := List.forall_mem_cons.mp hds
  have d1 : v_iv (n_v vs 5) + 0 ≤ v_iv (n_v vs 6) ∧ v_iv (n_v vs 6) ≤ v_iv (n_v vs 5) + 4 := d1
  have hf : fc_ok [(1, [6, 5, 2], []), (9, [5, 0], [8]), (7, [2, 3], [2]), (20, [0], [30, 1995, 1, 1, 8])] ta ws vs := hf
  obtain ⟨f0, hf⟩ := fc_un (show (1 : Nat) < 100 from by decide) hf
  have f0 : v_iv (n_v vs 6) = v_iv (n_v vs 5) + v_iv (n_v vs 2) := f0
  obtain ⟨f1, hf⟩ := fc_un (show (9 : Nat) < 100 from by decide) hf
  have f1 : n_v vs 5 = w_fd ws (v_ad (n_v vs 0)) 8 := f1
  obtain ⟨f2, hf⟩ := fc_un (show (7 : Nat) < 100 from by decide) hf
  have f2 : v_iv (n_v vs 2) < v_iv (n_v vs 3) := f2
  obtain ⟨f3, hf⟩ := fc_un (show (20 : Nat) < 100 from by decide) hf
  have f3 : 1 * w_fi ws (n_v vs 0) 8 + 0 ≤ 1995 := f3
  have g1 : v_iv (n_v vs 5) = w_fi ws (n_v vs 0) 8 := congrArg v_iv f1
  have kz_0_8 : 0 ≤ w_fi ws (n_v vs 0) 8 ∧ w_fi ws (n_v vs 0) 8 ≤ 2000 := tv_rng (th_fd hD hth r0 (g := GG_8) rfl (k := 8) (t := (0, 0, 2000, [])) rfl rfl)
  have rf6 : tv_ok ta (0, 0, 1999, []) (n_v vs 6) := tv_in t6 (by omega) (by omega)
  refine ⟨List.forall_mem_cons.mpr ⟨rf6, (fun _ h => (by cases h))⟩, [], trivial, ?_, (fun _ h => (by cases h))⟩
  rw [List.append_nil]
  exact (fun _ h => (by cases h))
def n_Re_isWord_at_s5001_an : List an_T := [(28, [(0, (2, 0, 0, [8])), (1, (2, 0, 0, [5001])), (2, (0, 0, 5, []))], [], (0, 0), [(0, 0, 99972), (1, 2, 5), (0, 0, 100000)], [], [], [], 0, [], [(20, [0], [30, 1995, 1, 1, 8])])]
def t_Re_isWord_at_s5001_ct : ct_L := [(58, 84, e_jStr_length_v172), (94, 84, e_jStr_length_v172), (151, 89, e_jStr_charAt_v173)]
set_option maxRecDepth 100000 in
theorem c_Re_isWord_at_s5001 {l : Launch} {D : va_G} {kA : Nat → ClassId} : ct_ok l D kA GG y_Re_isWord_at_s5001 z_Re_isWord_at_s5001 e_Re_isWord_at_s5001 := chk_all_ok (FT := [(9, 8, 0), (35, 8, 6), (38, 8, 7), (41, 8, 8)]) (PT := []) (CT := t_Re_isWord_at_s5001_ct) (KT := []) (NT := []) (AN := n_Re_isWord_at_s5001_an) (OT := [o_Re_isWord_at_s5001_0, o_Re_isWord_at_s5001_1]) 3 200 (List.forall_mem_cons.mpr ⟨oo_Re_isWord_at_s5001_0, List.forall_mem_cons.mpr ⟨oo_Re_isWord_at_s5001_1, List.forall_mem_nil _⟩⟩) (by decide +kernel) ⟨List.forall_mem_cons.mpr ⟨gf_Re_9, List.forall_mem_cons.mpr ⟨gf_Re_35, List.forall_mem_cons.mpr ⟨gf_Re_38, List.forall_mem_cons.mpr ⟨gf_Re_41, List.forall_mem_nil _⟩⟩⟩⟩, List.forall_mem_nil _, List.forall_mem_cons.mpr ⟨cl_string (y := y_jStr_length) (i := 1) rfl rfl (by decide +kernel) rfl c_jStr_length_v172 wm_674 wm_11 wm_671 wm_672 wm_673 ⟨by decide, by decide, by decide +kernel⟩ (by decide), List.forall_mem_cons.mpr ⟨cl_string (y := y_jStr_length) (i := 1) rfl rfl (by decide +kernel) rfl c_jStr_length_v172 wm_674 wm_11 wm_671 wm_672 wm_673 ⟨by decide, by decide, by decide +kernel⟩ (by decide), List.forall_mem_cons.mpr ⟨cl_string (y := y_jStr_charAt) (i := 1) rfl rfl (by decide +kernel) rfl c_jStr_charAt_v173 wm_684 wm_11 wm_681 wm_682 wm_683 ⟨by decide, by decide, by decide +kernel⟩ (by decide), List.forall_mem_nil _⟩⟩⟩, List.forall_mem_nil _, List.forall_mem_nil _, GG_pl⟩ (by decide +kernel)
def o_Re_isWord_at_s5002_0 : or_T := (28, 9, [(0, (2, 0, 0, [8])), (4, (0, 4, 2000, [])), (5, (0, 0, 2000, [])), (6, (0, 4, 4, [])), (7, (0, 4, 4, []))], [(7, [6, 7], [0]), (2, [6, 4, 5], []), (9, [5, 0], [8]), (9, [4, 0], [6])], [], [], [(20, [0], [30, 1996, 1, 1, 8])], [], [(6, 4, -2000, 0)])
theorem oo_Re_isWord_at_s5002_0 {kA : Nat → ClassId} : or_ok kA GG o_Re_isWord_at_s5002_0 := by
  intro A ta ws vs hD hth hl hk hds hf
  have hl : vs.length = 9 := hl
  have hk : ∀ q ∈ ([(0, (2, 0, 0, [8])), (4, (0, 4, 2000, [])), (5, (0, 0, 2000, [])), (6, (0, 4, 4, [])), (7, (0, 4, 4, []))] : List (Nat × tv_T)), tv_ok ta q.2 (n_v vs q.1) := hk
  obtain ⟨t0, hk⟩ := List.forall_mem_cons.mp hk
  have t0 : tv_ok ta (2, 0, 0, [8]) (n_v vs 0) := t0
  have r0 : ta (v_ad (n_v vs 0)) = some 8 := tv_rg t0
  obtain ⟨t4, hk⟩ := List.forall_mem_cons.mp hk
  have t4 : tv_ok ta (0, 4, 2000, []) (n_v vs 4) := t4
  have k4 : 4 ≤ v_iv (n_v vs 4) ∧ v_iv (n_v vs 4) ≤ 2000 := tv_rng t4
  obtain ⟨t5, hk⟩ := List.forall_mem_cons.mp hk
  have t5 : tv_ok ta (0, 0, 2000, []) (n_v vs 5) := t5
  have k5 : 0 ≤ v_iv (n_v vs 5) ∧ v_iv (n_v vs 5) ≤ 2000 := tv_rng t5
  obtain ⟨t6, hk⟩ := List.forall_mem_cons.mp hk
  have t6 : tv_ok ta (0, 4, 4, []) (n_v vs 6) := t6
  have k6 : 4 ≤ v_iv (n_v vs 6) ∧ v_iv (n_v vs 6) ≤ 4 := tv_rng t6
  obtain ⟨t7, hk⟩ := List.forall_mem_cons.mp hk
  have t7 : tv_ok ta (0, 4, 4, []) (n_v vs 7) := t7
  have k7 : 4 ≤ v_iv (n_v vs 7) ∧ v_iv (n_v vs 7) ≤ 4 := tv_rng t7
  have hds : ∀ q ∈ ([(6, 4, -2000, 0)] : List of_T), n_iv vs q.2.1 + q.2.2.1 ≤ n_iv vs q.1 ∧ n_iv vs q.1 ≤ n_iv vs q.2.1 + q.2.2.2 := hds
  obtain ⟨d0, hds⟩ := List.forall_mem_cons.mp hds
  have d0 : v_iv (n_v vs 4) + (-2000) ≤ v_iv (n_v vs 6) ∧ v_iv (n_v vs 6) ≤ v_iv (n_v vs 4) + 0 := d0
  have hf : fc_ok [(7, [6, 7], [0]), (2, [6, 4, 5], []), (9, [5, 0], [8]), (9, [4, 0], [6])] ta ws vs := hf
  obtain ⟨f0, hf⟩ := fc_un (show (7 : Nat) < 100 from by decide) hf
  have f0 : v_iv (n_v vs 6) = v_iv (n_v vs 7) := f0
  obtain ⟨f1, hf⟩ := fc_un (show (2 : Nat) < 100 from by decide) hf
  have f1 : v_iv (n_v vs 6) = v_iv (n_v vs 4) - v_iv (n_v vs 5) := f1
  obtain ⟨f2, hf⟩ := fc_un (show (9 : Nat) < 100 from by decide) hf
  have f2 : n_v vs 5 = w_fd ws (v_ad (n_v vs 0)) 8 := f2
  obtain ⟨f3, hf⟩ := fc_un (show (9 : Nat) < 100 from by decide) hf
  have f3 : n_v vs 4 = w_fd ws (v_ad (n_v vs 0)) 6 := f3
  have g2 : v_iv (n_v vs 5) = w_fi ws (n_v vs 0) 8 := congrArg v_iv f2
  have g3 : v_iv (n_v vs 4) = w_fi ws (n_v vs 0) 6 := congrArg v_iv f3
  have kz_0_6 : 0 ≤ w_fi ws (n_v vs 0) 6 ∧ w_fi ws (n_v vs 0) 6 ≤ 2000 := tv_rng (th_fd hD hth r0 (g := GG_8) rfl (k := 6) (t := (0, 0, 2000, [])) rfl rfl)
  have kz_0_8 : 0 ≤ w_fi ws (n_v vs 0) 8 ∧ w_fi ws (n_v vs 0) 8 ≤ 2000 := tv_rng (th_fd hD hth r0 (g := GG_8) rfl (k := 8) (t := (0, 0, 2000, [])) rfl rfl)
  have nf0 : fc_1 (20, [0], [30, 1996, 1, 1, 8]) ws (vs) := by
    refine ⟨fun n hn => ?_, ?_⟩
    · have hn : n ∈ [0] := hn
      rw [hl]
      simp only [List.mem_cons, List.not_mem_nil, or_false] at hn
      show n < 9; omega
    · show 1 * w_fi ws (n_v vs 0) 8 + 0 ≤ 1996
      omega
  refine ⟨(fun _ h => (by cases h)), [], trivial, ?_, (fun _ h => (by cases h))⟩
  rw [List.append_nil]
  exact List.forall_mem_cons.mpr ⟨⟨show (20 : Nat) < 100 from by decide, nf0⟩, (fun _ h => (by cases h))⟩
def o_Re_isWord_at_s5002_1 : or_T := (46, 7, [(0, (2, 0, 0, [8])), (2, (0, 0, 3, [])), (3, (0, 4, 4, [])), (5, (0, 0, 2000, [])), (6, (0, 0, 2003, []))], [(1, [6, 5, 2], []), (9, [5, 0], [8]), (7, [2, 3], [2]), (20, [0], [30, 1996, 1, 1, 8])], [(6, (0, 0, 1999, []))], [], [], [], [(6, 2, 0, 2000), (6, 5, 0, 3)])
theorem oo_Re_isWord_at_s5002_1 {kA : Nat → ClassId} : or_ok kA GG o_Re_isWord_at_s5002_1 := by
  intro A ta ws vs hD hth hl hk hds hf
  have hl : vs.length = 7 := hl
  have hk : ∀ q ∈ ([(0, (2, 0, 0, [8])), (2, (0, 0, 3, [])), (3, (0, 4, 4, [])), (5, (0, 0, 2000, [])), (6, (0, 0, 2003, []))] : List (Nat × tv_T)), tv_ok ta q.2 (n_v vs q.1) := hk
  obtain ⟨t0, hk⟩ := List.forall_mem_cons.mp hk
  have t0 : tv_ok ta (2, 0, 0, [8]) (n_v vs 0) := t0
  have r0 : ta (v_ad (n_v vs 0)) = some 8 := tv_rg t0
  obtain ⟨t2, hk⟩ := List.forall_mem_cons.mp hk
  have t2 : tv_ok ta (0, 0, 3, []) (n_v vs 2) := t2
  have k2 : 0 ≤ v_iv (n_v vs 2) ∧ v_iv (n_v vs 2) ≤ 3 := tv_rng t2
  obtain ⟨t3, hk⟩ := List.forall_mem_cons.mp hk
  have t3 : tv_ok ta (0, 4, 4, []) (n_v vs 3) := t3
  have k3 : 4 ≤ v_iv (n_v vs 3) ∧ v_iv (n_v vs 3) ≤ 4 := tv_rng t3
  obtain ⟨t5, hk⟩ := List.forall_mem_cons.mp hk
  have t5 : tv_ok ta (0, 0, 2000, []) (n_v vs 5) := t5
  have k5 : 0 ≤ v_iv (n_v vs 5) ∧ v_iv (n_v vs 5) ≤ 2000 := tv_rng t5
  obtain ⟨t6, hk⟩ := List.forall_mem_cons.mp hk
  have t6 : tv_ok ta (0, 0, 2003, []) (n_v vs 6) := t6
  have k6 : 0 ≤ v_iv (n_v vs 6) ∧ v_iv (n_v vs 6) ≤ 2003 := tv_rng t6
  have hds : ∀ q ∈ ([(6, 2, 0, 2000), (6, 5, 0, 3)] : List of_T), n_iv vs q.2.1 + q.2.2.1 ≤ n_iv vs q.1 ∧ n_iv vs q.1 ≤ n_iv vs q.2.1 + q.2.2.2 := hds
  obtain ⟨d0, hds⟩ := List.forall_mem_cons.mp hds
  have d0 : v_iv (n_v vs 2) + 0 ≤ v_iv (n_v vs 6) ∧ v_iv (n_v vs 6) ≤ v_iv (n_v vs 2) + 2000 := d0
  obtain ⟨d1, hds⟩ := List.forall_mem_cons.mp hds
  have d1 : v_iv (n_v vs 5) + 0 ≤ v_iv (n_v vs 6) ∧ v_iv (n_v vs 6) ≤ v_iv (n_v vs 5) + 3 := d1
  have hf : fc_ok [(1, [6, 5, 2], []), (9, [5, 0], [8]), (7, [2, 3], [2]), (20, [0], [30, 1996, 1, 1, 8])] ta ws vs := hf
  obtain ⟨f0, hf⟩ := fc_un (show (1 : Nat) < 100 from by decide) hf
  have f0 : v_iv (n_v vs 6) = v_iv (n_v vs 5) + v_iv (n_v vs 2) := f0
  obtain ⟨f1, hf⟩ := fc_un (show (9 : Nat) < 100 from by decide) hf
  have f1 : n_v vs 5 = w_fd ws (v_ad (n_v vs 0)) 8 := f1
  obtain ⟨f2, hf⟩ := fc_un (show (7 : Nat) < 100 from by decide) hf
  have f2 : v_iv (n_v vs 2) < v_iv (n_v vs 3) := f2
  obtain ⟨f3, hf⟩ := fc_un (show (20 : Nat) < 100 from by decide) hf
  have f3 : 1 * w_fi ws (n_v vs 0) 8 + 0 ≤ 1996 := f3
  have g1 : v_iv (n_v vs 5) = w_fi ws (n_v vs 0) 8 := congrArg v_iv f1
  have kz_0_8 : 0 ≤ w_fi ws (n_v vs 0) 8 ∧ w_fi ws (n_v vs 0) 8 ≤ 2000 := tv_rng (th_fd hD hth r0 (g := GG_8) rfl (k := 8) (t := (0, 0, 2000, [])) rfl rfl)
  have rf6 : tv_ok ta (0, 0, 1999, []) (n_v vs 6) := tv_in t6 (by omega) (by omega)
  refine ⟨List.forall_mem_cons.mpr ⟨rf6, (fun _ h => (by cases h))⟩, [], trivial, ?_, (fun _ h => (by cases h))⟩
  rw [List.append_nil]
  exact (fun _ h => (by cases h))
def n_Re_isWord_at_s5002_an : List an_T := [(28, [(0, (2, 0, 0, [8])), (1, (2, 0, 0, [5002])), (2, (0, 0, 4, []))], [], (0, 0), [(0, 0, 99972), (1, 2, 4), (0, 0, 100000)], [], [], [], 0, [], [(20, [0], [30, 1996, 1, 1, 8])])]
def t_Re_isWord_at_s5002_ct : ct_L := [(58, 84, e_jStr_length_v177), (94, 84, e_jStr_length_v177), (151, 89, e_jStr_charAt_v178)]
set_option maxRecDepth 100000 in
theorem c_Re_isWord_at_s5002 {l : Launch} {D : va_G} {kA : Nat → ClassId} : ct_ok l D kA GG y_Re_isWord_at_s5002 z_Re_isWord_at_s5002 e_Re_isWord_at_s5002 := chk_all_ok (FT := [(9, 8, 0), (35, 8, 6), (38, 8, 7), (41, 8, 8)]) (PT := []) (CT := t_Re_isWord_at_s5002_ct) (KT := []) (NT := []) (AN := n_Re_isWord_at_s5002_an) (OT := [o_Re_isWord_at_s5002_0, o_Re_isWord_at_s5002_1]) 3 200 (List.forall_mem_cons.mpr ⟨oo_Re_isWord_at_s5002_0, List.forall_mem_cons.mpr ⟨oo_Re_isWord_at_s5002_1, List.forall_mem_nil _⟩⟩) (by decide +kernel) ⟨List.forall_mem_cons.mpr ⟨gf_Re_9, List.forall_mem_cons.mpr ⟨gf_Re_35, List.forall_mem_cons.mpr ⟨gf_Re_38, List.forall_mem_cons.mpr ⟨gf_Re_41, List.forall_mem_nil _⟩⟩⟩⟩, List.forall_mem_nil _, List.forall_mem_cons.mpr ⟨cl_string (y := y_jStr_length) (i := 2) rfl rfl (by decide +kernel) rfl c_jStr_length_v177 wm_674 wm_11 wm_671 wm_672 wm_673 ⟨by decide, by decide, by decide +kernel⟩ (by decide), List.forall_mem_cons.mpr ⟨cl_string (y := y_jStr_length) (i := 2) rfl rfl (by decide +kernel) rfl c_jStr_length_v177 wm_674 wm_11 wm_671 wm_672 wm_673 ⟨by decide, by decide, by decide +kernel⟩ (by decide), List.forall_mem_cons.mpr ⟨cl_string (y := y_jStr_charAt) (i := 2) rfl rfl (by decide +kernel) rfl c_jStr_charAt_v178 wm_684 wm_11 wm_681 wm_682 wm_683 ⟨by decide, by decide, by decide +kernel⟩ (by decide), List.forall_mem_nil _⟩⟩⟩, List.forall_mem_nil _, List.forall_mem_nil _, GG_pl⟩ (by decide +kernel)
def o_Re_isWord_at_s5003_0 : or_T := (28, 9, [(0, (2, 0, 0, [8])), (4, (0, 6, 2000, [])), (5, (0, 0, 2000, [])), (6, (0, 6, 6, [])), (7, (0, 6, 6, []))], [(7, [6, 7], [0]), (2, [6, 4, 5], []), (9, [5, 0], [8]), (9, [4, 0], [6])], [], [], [(20, [0], [30, 1994, 1, 1, 8])], [], [(6, 4, -2000, 0)])
theorem oo_Re_isWord_at_s5003_0 {kA : Nat → ClassId} : or_ok kA GG o_Re_isWord_at_s5003_0 := by
  intro A ta ws vs hD hth hl hk hds hf
  have hl : vs.length = 9 := hl
  have hk : ∀ q ∈ ([(0, (2, 0, 0, [8])), (4, (0, 6, 2000, [])), (5, (0, 0, 2000, [])), (6, (0, 6, 6, [])), (7, (0, 6, 6, []))] : List (Nat × tv_T)), tv_ok ta q.2 (n_v vs q.1) := hk
  obtain ⟨t0, hk⟩ := List.forall_mem_cons.mp hk
  have t0 : tv_ok ta (2, 0, 0, [8]) (n_v vs 0) := t0
  have r0 : ta (v_ad (n_v vs 0)) = some 8 := tv_rg t0
  obtain ⟨t4, hk⟩ := List.forall_mem_cons.mp hk
  have t4 : tv_ok ta (0, 6, 2000, []) (n_v vs 4) := t4
  have k4 : 6 ≤ v_iv (n_v vs 4) ∧ v_iv (n_v vs 4) ≤ 2000 := tv_rng t4
  obtain ⟨t5, hk⟩ := List.forall_mem_cons.mp hk
  have t5 : tv_ok ta (0, 0, 2000, []) (n_v vs 5) := t5
  have k5 : 0 ≤ v_iv (n_v vs 5) ∧ v_iv (n_v vs 5) ≤ 2000 := tv_rng t5
  obtain ⟨t6, hk⟩ := List.forall_mem_cons.mp hk
  have t6 : tv_ok ta (0, 6, 6, []) (n_v vs 6) := t6
  have k6 : 6 ≤ v_iv (n_v vs 6) ∧ v_iv (n_v vs 6) ≤ 6 := tv_rng t6
  obtain ⟨t7, hk⟩ := List.forall_mem_cons.mp hk
  have t7 : tv_ok ta (0, 6, 6, []) (n_v vs 7) := t7
  have k7 : 6 ≤ v_iv (n_v vs 7) ∧ v_iv (n_v vs 7) ≤ 6 := tv_rng t7
  have hds : ∀ q ∈ ([(6, 4, -2000, 0)] : List of_T), n_iv vs q.2.1 + q.2.2.1 ≤ n_iv vs q.1 ∧ n_iv vs q.1 ≤ n_iv vs q.2.1 + q.2.2.2 := hds
  obtain ⟨d0, hds⟩ := List.forall_mem_cons.mp hds
  have d0 : v_iv (n_v vs 4) + (-2000) ≤ v_iv (n_v vs 6) ∧ v_iv (n_v vs 6) ≤ v_iv (n_v vs 4) + 0 := d0
  have hf : fc_ok [(7, [6, 7], [0]), (2, [6, 4, 5], []), (9, [5, 0], [8]), (9, [4, 0], [6])] ta ws vs := hf
  obtain ⟨f0, hf⟩ := fc_un (show (7 : Nat) < 100 from by decide) hf
  have f0 : v_iv (n_v vs 6) = v_iv (n_v vs 7) := f0
  obtain ⟨f1, hf⟩ := fc_un (show (2 : Nat) < 100 from by decide) hf
  have f1 : v_iv (n_v vs 6) = v_iv (n_v vs 4) - v_iv (n_v vs 5) := f1
  obtain ⟨f2, hf⟩ := fc_un (show (9 : Nat) < 100 from by decide) hf
  have f2 : n_v vs 5 = w_fd ws (v_ad (n_v vs 0)) 8 := f2
  obtain ⟨f3, hf⟩ := fc_un (show (9 : Nat) < 100 from by decide) hf
  have f3 : n_v vs 4 = w_fd ws (v_ad (n_v vs 0)) 6 := f3
  have g2 : v_iv (n_v vs 5) = w_fi ws (n_v vs 0) 8 := congrArg v_iv f2
  have g3 : v_iv (n_v vs 4) = w_fi ws (n_v vs 0) 6 := congrArg v_iv f3
  have kz_0_6 : 0 ≤ w_fi ws (n_v vs 0) 6 ∧ w_fi ws (n_v vs 0) 6 ≤ 2000 := tv_rng (th_fd hD hth r0 (g := GG_8) rfl (k := 6) (t := (0, 0, 2000, [])) rfl rfl)
  have kz_0_8 : 0 ≤ w_fi ws (n_v vs 0) 8 ∧ w_fi ws (n_v vs 0) 8 ≤ 2000 := tv_rng (th_fd hD hth r0 (g := GG_8) rfl (k := 8) (t := (0, 0, 2000, [])) rfl rfl)
  have nf0 : fc_1 (20, [0], [30, 1994, 1, 1, 8]) ws (vs) := by
    refine ⟨fun n hn => ?_, ?_⟩
    · have hn : n ∈ [0] := hn
      rw [hl]
      simp only [List.mem_cons, List.not_mem_nil, or_false] at hn
      show n < 9; omega
    · show 1 * w_fi ws (n_v vs 0) 8 + 0 ≤ 1994
      omega
  refine ⟨(fun _ h => (by cases h)), [], trivial, ?_, (fun _ h => (by cases h))⟩
  rw [List.append_nil]
  exact List.forall_mem_cons.mpr ⟨⟨show (20 : Nat) < 100 from by decide, nf0⟩, (fun _ h => (by cases h))⟩
def o_Re_isWord_at_s5003_1 : or_T := (46, 7, [(0, (2, 0, 0, [8])), (2, (0, 0, 5, [])), (3, (0, 6, 6, [])), (5, (0, 0, 2000, [])), (6, (0, 0, 2005, []))], [(1, [6, 5, 2], []), (9, [5, 0], [8]), (7, [2, 3], [2]), (20, [0], [30, 1994, 1, 1, 8])], [(6, (0, 0, 1999, []))], [], [], [], [(6, 2, 0, 2000), (6, 5, 0, 5)])
theorem oo_Re_isWord_at_s5003_1 {kA : Nat → ClassId} : or_ok kA GG o_Re_isWord_at_s5003_1 := by
  intro A ta ws vs hD hth hl hk hds hf
  have hl : vs.length = 7 := hl
  have hk : ∀ q ∈ ([(0, (2, 0, 0, [8])), (2, (0, 0, 5, [])), (3, (0, 6, 6, [])), (5, (0, 0, 2000, [])), (6, (0, 0, 2005, []))] : List (Nat × tv_T)), tv_ok ta q.2 (n_v vs q.1) := hk
  obtain ⟨t0, hk⟩ := List.forall_mem_cons.mp hk
  have t0 : tv_ok ta (2, 0, 0, [8]) (n_v vs 0) := t0
  have r0 : ta (v_ad (n_v vs 0)) = some 8 := tv_rg t0
  obtain ⟨t2, hk⟩ := List.forall_mem_cons.mp hk
  have t2 : tv_ok ta (0, 0, 5, []) (n_v vs 2) := t2
  have k2 : 0 ≤ v_iv (n_v vs 2) ∧ v_iv (n_v vs 2) ≤ 5 := tv_rng t2
  obtain ⟨t3, hk⟩ := List.forall_mem_cons.mp hk
  have t3 : tv_ok ta (0, 6, 6, []) (n_v vs 3) := t3
  have k3 : 6 ≤ v_iv (n_v vs 3) ∧ v_iv (n_v vs 3) ≤ 6 := tv_rng t3
  obtain ⟨t5, hk⟩ := List.forall_mem_cons.mp hk
  have t5 : tv_ok ta (0, 0, 2000, []) (n_v vs 5) := t5
  have k5 : 0 ≤ v_iv (n_v vs 5) ∧ v_iv (n_v vs 5) ≤ 2000 := tv_rng t5
  obtain ⟨t6, hk⟩ := List.forall_mem_cons.mp hk
  have t6 : tv_ok ta (0, 0, 2005, []) (n_v vs 6) := t6
  have k6 : 0 ≤ v_iv (n_v vs 6) ∧ v_iv (n_v vs 6) ≤ 2005 := tv_rng t6
  have hds : ∀ q ∈ ([(6, 2, 0, 2000), (6, 5, 0, 5)] : List of_T), n_iv vs q.2.1 + q.2.2.1 ≤ n_iv vs q.1 ∧ n_iv vs q.1 ≤ n_iv vs q.2.1 + q.2.2.2 := hds
  obtain ⟨d0, hds⟩ := List.forall_mem_cons.mp hds
  have d0 : v_iv (n_v vs 2) + 0 ≤ v_iv (n_v vs 6) ∧ v_iv (n_v vs 6) ≤ v_iv (n_v vs 2) + 2000 := d0
  obtain ⟨d1, hds⟩ := List.forall_mem_cons.mp hds
  have d1 : v_iv (n_v vs 5) + 0 ≤ v_iv (n_v vs 6) ∧ v_iv (n_v vs 6) ≤ v_iv (n_v vs 5) + 5 := d1
  have hf : fc_ok [(1, [6, 5, 2], []), (9, [5, 0], [8]), (7, [2, 3], [2]), (20, [0], [30, 1994, 1, 1, 8])] ta ws vs := hf
  obtain ⟨f0, hf⟩ := fc_un (show (1 : Nat) < 100 from by decide) hf
  have f0 : v_iv (n_v vs 6) = v_iv (n_v vs 5) + v_iv (n_v vs 2) := f0
  obtain ⟨f1, hf⟩ := fc_un (show (9 : Nat) < 100 from by decide) hf
  have f1 : n_v vs 5 = w_fd ws (v_ad (n_v vs 0)) 8 := f1
  obtain ⟨f2, hf⟩ := fc_un (show (7 : Nat) < 100 from by decide) hf
  have f2 : v_iv (n_v vs 2) < v_iv (n_v vs 3) := f2
  obtain ⟨f3, hf⟩ := fc_un (show (20 : Nat) < 100 from by decide) hf
  have f3 : 1 * w_fi ws (n_v vs 0) 8 + 0 ≤ 1994 := f3
  have g1 : v_iv (n_v vs 5) = w_fi ws (n_v vs 0) 8 := congrArg v_iv f1
  have kz_0_8 : 0 ≤ w_fi ws (n_v vs 0) 8 ∧ w_fi ws (n_v vs 0) 8 ≤ 2000 := tv_rng (th_fd hD hth r0 (g := GG_8) rfl (k := 8) (t := (0, 0, 2000, [])) rfl rfl)
  have rf6 : tv_ok ta (0, 0, 1999, []) (n_v vs 6) := tv_in t6 (by omega) (by omega)
  refine ⟨List.forall_mem_cons.mpr ⟨rf6, (fun _ h => (by cases h))⟩, [], trivial, ?_, (fun _ h => (by cases h))⟩
  rw [List.append_nil]
  exact (fun _ h => (by cases h))
def n_Re_isWord_at_s5003_an : List an_T := [(28, [(0, (2, 0, 0, [8])), (1, (2, 0, 0, [5003])), (2, (0, 0, 6, []))], [], (0, 0), [(0, 0, 99972), (1, 2, 6), (0, 0, 100000)], [], [], [], 0, [], [(20, [0], [30, 1994, 1, 1, 8])])]
def t_Re_isWord_at_s5003_ct : ct_L := [(58, 84, e_jStr_length_v180), (94, 84, e_jStr_length_v180), (151, 89, e_jStr_charAt_v181)]
set_option maxRecDepth 100000 in
theorem c_Re_isWord_at_s5003 {l : Launch} {D : va_G} {kA : Nat → ClassId} : ct_ok l D kA GG y_Re_isWord_at_s5003 z_Re_isWord_at_s5003 e_Re_isWord_at_s5003 := chk_all_ok (FT := [(9, 8, 0), (35, 8, 6), (38, 8, 7), (41, 8, 8)]) (PT := []) (CT := t_Re_isWord_at_s5003_ct) (KT := []) (NT := []) (AN := n_Re_isWord_at_s5003_an) (OT := [o_Re_isWord_at_s5003_0, o_Re_isWord_at_s5003_1]) 3 200 (List.forall_mem_cons.mpr ⟨oo_Re_isWord_at_s5003_0, List.forall_mem_cons.mpr ⟨oo_Re_isWord_at_s5003_1, List.forall_mem_nil _⟩⟩) (by decide +kernel) ⟨List.forall_mem_cons.mpr ⟨gf_Re_9, List.forall_mem_cons.mpr ⟨gf_Re_35, List.forall_mem_cons.mpr ⟨gf_Re_38, List.forall_mem_cons.mpr ⟨gf_Re_41, List.forall_mem_nil _⟩⟩⟩⟩, List.forall_mem_nil _, List.forall_mem_cons.mpr ⟨cl_string (y := y_jStr_length) (i := 3) rfl rfl (by decide +kernel) rfl c_jStr_length_v180 wm_674 wm_11 wm_671 wm_672 wm_673 ⟨by decide, by decide, by decide +kernel⟩ (by decide), List.forall_mem_cons.mpr ⟨cl_string (y := y_jStr_length) (i := 3) rfl rfl (by decide +kernel) rfl c_jStr_length_v180 wm_674 wm_11 wm_671 wm_672 wm_673 ⟨by decide, by decide, by decide +kernel⟩ (by decide), List.forall_mem_cons.mpr ⟨cl_string (y := y_jStr_charAt) (i := 3) rfl rfl (by decide +kernel) rfl c_jStr_charAt_v181 wm_684 wm_11 wm_681 wm_682 wm_683 ⟨by decide, by decide, by decide +kernel⟩ (by decide), List.forall_mem_nil _⟩⟩⟩, List.forall_mem_nil _, List.forall_mem_nil _, GG_pl⟩ (by decide +kernel)
def n_Ho_label_an : List an_T := []
def t_Ho_label_ct : ct_L := [(1, 197, e_Gr_hasEdge), (1, 323, e_Ho_hasDrawing), (1, 333, e_Dr_labelOf)]
set_option maxRecDepth 100000 in
theorem c_Ho_label {l : Launch} {D : va_G} {kA : Nat → ClassId} (h_Dr_labelOf : ct_ok l D kA GG y_Dr_labelOf z_Dr_labelOf e_Dr_labelOf) (h_Gr_hasEdge : ct_ok l D kA GG y_Gr_hasEdge z_Gr_hasEdge e_Gr_hasEdge) (h_Ho_hasDrawing : ct_ok l D kA GG y_Ho_hasDrawing z_Ho_hasDrawing e_Ho_hasDrawing) : ct_ok l D kA GG y_Ho_label z_Ho_label e_Ho_label := chk_all_ok (FT := [(13, 12, 0), (31, 12, 3)]) (PT := []) (CT := t_Ho_label_ct) (KT := [(1, 315, .int (Int32.ofInt (-2147483648)), (0, -2147483648, -2147483648, []))]) (NT := []) (AN := n_Ho_label_an) (OT := []) 0 200 (List.forall_mem_nil _) (by decide +kernel) ⟨List.forall_mem_cons.mpr ⟨gf_Ho_13, List.forall_mem_cons.mpr ⟨gf_Ho_31, List.forall_mem_nil _⟩⟩, List.forall_mem_nil _, List.forall_mem_cons.mpr ⟨cl_virtual (y := y_Gr_hasEdge) (ci := 3) rfl rfl ⟨_, _, rfl⟩ (by decide +kernel) h_Gr_hasEdge wm_930 wm_3 wm_927 wm_928 wm_929 ⟨by decide, by decide, by decide +kernel⟩ (by decide), List.forall_mem_cons.mpr ⟨cl_virtual (y := y_Ho_hasDrawing) (ci := 12) rfl rfl ⟨_, _, rfl⟩ (by decide +kernel) h_Ho_hasDrawing wm_1859 wm_1 wm_1856 wm_1858 wv_8_15 ⟨by decide, by decide, by decide +kernel⟩ (by decide), List.forall_mem_cons.mpr ⟨cl_virtual (y := y_Dr_labelOf) (ci := 0) rfl rfl ⟨_, _, rfl⟩ (by decide +kernel) h_Dr_labelOf wm_1978 wm_8 wm_1975 wm_1976 wm_1977 ⟨by decide, by decide, by decide +kernel⟩ (by decide), List.forall_mem_nil _⟩⟩⟩, List.forall_mem_cons.mpr ⟨kx_Ho_1_315, List.forall_mem_nil _⟩, List.forall_mem_nil _, GG_pl⟩ (by decide +kernel)
def n_Ho_writeWord_at_s5013_an : List an_T := [(2, [(0, (2, 0, 0, [12])), (1, (2, 0, 0, [5013])), (2, (0, 0, 5, []))], [], (0, 0), [(0, 0, 99998), (1, 2, 5), (0, 0, 100000)], [], [], [], 0, [], [])]
def t_Ho_writeWord_at_s5013_ct : ct_L := [(1, 447, e_Ho_writeByte), (16, 438, e_jStr_length_v185), (43, 443, e_jStr_charAt_v186)]
set_option maxRecDepth 100000 in
theorem c_Ho_writeWord_at_s5013 {l : Launch} {D : va_G} {kA : Nat → ClassId} (h_Ho_writeByte : ct_ok l D kA GG y_Ho_writeByte z_Ho_writeByte e_Ho_writeByte) : ct_ok l D kA GG y_Ho_writeWord_at_s5013 z_Ho_writeWord_at_s5013 e_Ho_writeWord_at_s5013 := chk_all_ok (FT := []) (PT := []) (CT := t_Ho_writeWord_at_s5013_ct) (KT := []) (NT := []) (AN := n_Ho_writeWord_at_s5013_an) (OT := []) 3 200 (List.forall_mem_nil _) (by decide +kernel) ⟨List.forall_mem_nil _, List.forall_mem_nil _, List.forall_mem_cons.mpr ⟨cl_virtual (y := y_Ho_writeByte) (ci := 12) rfl rfl ⟨_, _, rfl⟩ (by decide +kernel) h_Ho_writeByte wm_2345 wm_1 wm_2342 wm_2344 wv_12_0 ⟨by decide, by decide, by decide +kernel⟩ (by decide), List.forall_mem_cons.mpr ⟨cl_string (y := y_jStr_length) (i := 13) rfl rfl (by decide +kernel) rfl c_jStr_length_v185 wm_674 wm_11 wm_2340 wm_672 wm_673 ⟨by decide, by decide, by decide +kernel⟩ (by decide), List.forall_mem_cons.mpr ⟨cl_string (y := y_jStr_charAt) (i := 13) rfl rfl (by decide +kernel) rfl c_jStr_charAt_v186 wm_684 wm_11 wm_2341 wm_682 wm_683 ⟨by decide, by decide, by decide +kernel⟩ (by decide), List.forall_mem_nil _⟩⟩⟩, List.forall_mem_nil _, List.forall_mem_nil _, GG_pl⟩ (by decide +kernel)
def n_Ho_writeWord_at_s5014_an : List an_T := [(2, [(0, (2, 0, 0, [12])), (1, (2, 0, 0, [5014])), (2, (0, 0, 7, []))], [], (0, 0), [(0, 0, 99998), (1, 2, 7), (0, 0, 100000)], [], [], [], 0, [], [])]
def t_Ho_writeWord_at_s5014_ct : ct_L := [(1, 447, e_Ho_writeByte), (16, 438, e_jStr_length_v188), (43, 443, e_jStr_charAt_v189)]
set_option maxRecDepth 100000 in
theorem c_Ho_writeWord_at_s5014 {l : Launch} {D : va_G} {kA : Nat → ClassId} (h_Ho_writeByte : ct_ok l D kA GG y_Ho_writeByte z_Ho_writeByte e_Ho_writeByte) : ct_ok l D kA GG y_Ho_writeWord_at_s5014 z_Ho_writeWord_at_s5014 e_Ho_writeWord_at_s5014 := chk_all_ok (FT := []) (PT := []) (CT := t_Ho_writeWord_at_s5014_ct) (KT := []) (NT := []) (AN := n_Ho_writeWord_at_s5014_an) (OT := []) 3 200 (List.forall_mem_nil _) (by decide +kernel) ⟨List.forall_mem_nil _, List.forall_mem_nil _, List.forall_mem_cons.mpr ⟨cl_virtual (y := y_Ho_writeByte) (ci := 12) rfl rfl ⟨_, _, rfl⟩ (by decide +kernel) h_Ho_writeByte wm_2345 wm_1 wm_2342 wm_2344 wv_12_0 ⟨by decide, by decide, by decide +kernel⟩ (by decide), List.forall_mem_cons.mpr ⟨cl_string (y := y_jStr_length) (i := 14) rfl rfl (by decide +kernel) rfl c_jStr_length_v188 wm_674 wm_11 wm_2340 wm_672 wm_673 ⟨by decide, by decide, by decide +kernel⟩ (by decide), List.forall_mem_cons.mpr ⟨cl_string (y := y_jStr_charAt) (i := 14) rfl rfl (by decide +kernel) rfl c_jStr_charAt_v189 wm_684 wm_11 wm_2341 wm_682 wm_683 ⟨by decide, by decide, by decide +kernel⟩ (by decide), List.forall_mem_nil _⟩⟩⟩, List.forall_mem_nil _, List.forall_mem_nil _, GG_pl⟩ (by decide +kernel)
def n_Ho_writeWord_at_s5015_an : List an_T := [(2, [(0, (2, 0, 0, [12])), (1, (2, 0, 0, [5015])), (2, (0, 0, 2, []))], [], (0, 0), [(0, 0, 99998), (1, 2, 2), (0, 0, 100000)], [], [], [], 0, [], [])]
def t_Ho_writeWord_at_s5015_ct : ct_L := [(1, 447, e_Ho_writeByte), (16, 438, e_jStr_length_v193), (43, 443, e_jStr_charAt_v194)]
set_option maxRecDepth 100000 in
theorem c_Ho_writeWord_at_s5015 {l : Launch} {D : va_G} {kA : Nat → ClassId} (h_Ho_writeByte : ct_ok l D kA GG y_Ho_writeByte z_Ho_writeByte e_Ho_writeByte) : ct_ok l D kA GG y_Ho_writeWord_at_s5015 z_Ho_writeWord_at_s5015 e_Ho_writeWord_at_s5015 := chk_all_ok (FT := []) (PT := []) (CT := t_Ho_writeWord_at_s5015_ct) (KT := []) (NT := []) (AN := n_Ho_writeWord_at_s5015_an) (OT := []) 3 200 (List.forall_mem_nil _) (by decide +kernel) ⟨List.forall_mem_nil _, List.forall_mem_nil _, List.forall_mem_cons.mpr ⟨cl_virtual (y := y_Ho_writeByte) (ci := 12) rfl rfl ⟨_, _, rfl⟩ (by decide +kernel) h_Ho_writeByte wm_2345 wm_1 wm_2342 wm_2344 wv_12_0 ⟨by decide, by decide, by decide +kernel⟩ (by decide), List.forall_mem_cons.mpr ⟨cl_string (y := y_jStr_length) (i := 15) rfl rfl (by decide +kernel) rfl c_jStr_length_v193 wm_674 wm_11 wm_2340 wm_672 wm_673 ⟨by decide, by decide, by decide +kernel⟩ (by decide), List.forall_mem_cons.mpr ⟨cl_string (y := y_jStr_charAt) (i := 15) rfl rfl (by decide +kernel) rfl c_jStr_charAt_v194 wm_684 wm_11 wm_2341 wm_682 wm_683 ⟨by decide, by decide, by decide +kernel⟩ (by decide), List.forall_mem_nil _⟩⟩⟩, List.forall_mem_nil _, List.forall_mem_nil _, GG_pl⟩ (by decide +kernel)
def n_Ho_writeWord_at_s5016_an : List an_T := [(2, [(0, (2, 0, 0, [12])), (1, (2, 0, 0, [5016])), (2, (0, 0, 6, []))], [], (0, 0), [(0, 0, 99998), (1, 2, 6), (0, 0, 100000)], [], [], [], 0, [], [])]
def t_Ho_writeWord_at_s5016_ct : ct_L := [(1, 447, e_Ho_writeByte), (16, 438, e_jStr_length_v198), (43, 443, e_jStr_charAt_v199)]
set_option maxRecDepth 100000 in
theorem c_Ho_writeWord_at_s5016 {l : Launch} {D : va_G} {kA : Nat → ClassId} (h_Ho_writeByte : ct_ok l D kA GG y_Ho_writeByte z_Ho_writeByte e_Ho_writeByte) : ct_ok l D kA GG y_Ho_writeWord_at_s5016 z_Ho_writeWord_at_s5016 e_Ho_writeWord_at_s5016 := chk_all_ok (FT := []) (PT := []) (CT := t_Ho_writeWord_at_s5016_ct) (KT := []) (NT := []) (AN := n_Ho_writeWord_at_s5016_an) (OT := []) 3 200 (List.forall_mem_nil _) (by decide +kernel) ⟨List.forall_mem_nil _, List.forall_mem_nil _, List.forall_mem_cons.mpr ⟨cl_virtual (y := y_Ho_writeByte) (ci := 12) rfl rfl ⟨_, _, rfl⟩ (by decide +kernel) h_Ho_writeByte wm_2345 wm_1 wm_2342 wm_2344 wv_12_0 ⟨by decide, by decide, by decide +kernel⟩ (by decide), List.forall_mem_cons.mpr ⟨cl_string (y := y_jStr_length) (i := 16) rfl rfl (by decide +kernel) rfl c_jStr_length_v198 wm_674 wm_11 wm_2340 wm_672 wm_673 ⟨by decide, by decide, by decide +kernel⟩ (by decide), List.forall_mem_cons.mpr ⟨cl_string (y := y_jStr_charAt) (i := 16) rfl rfl (by decide +kernel) rfl c_jStr_charAt_v199 wm_684 wm_11 wm_2341 wm_682 wm_683 ⟨by decide, by decide, by decide +kernel⟩ (by decide), List.forall_mem_nil _⟩⟩⟩, List.forall_mem_nil _, List.forall_mem_nil _, GG_pl⟩ (by decide +kernel)
def n_Ho_writeWord_at_s5017_an : List an_T := [(2, [(0, (2, 0, 0, [12])), (1, (2, 0, 0, [5017])), (2, (0, 0, 3, []))], [], (0, 0), [(0, 0, 99998), (1, 2, 3), (0, 0, 100000)], [], [], [], 0, [], [])]
def t_Ho_writeWord_at_s5017_ct : ct_L := [(1, 447, e_Ho_writeByte), (16, 438, e_jStr_length_v201), (43, 443, e_jStr_charAt_v202)]
set_option maxRecDepth 100000 in
theorem c_Ho_writeWord_at_s5017 {l : Launch} {D : va_G} {kA : Nat → ClassId} (h_Ho_writeByte : ct_ok l D kA GG y_Ho_writeByte z_Ho_writeByte e_Ho_writeByte) : ct_ok l D kA GG y_Ho_writeWord_at_s5017 z_Ho_writeWord_at_s5017 e_Ho_writeWord_at_s5017 := chk_all_ok (FT := []) (PT := []) (CT := t_Ho_writeWord_at_s5017_ct) (KT := []) (NT := []) (AN := n_Ho_writeWord_at_s5017_an) (OT := []) 3 200 (List.forall_mem_nil _) (by decide +kernel) ⟨List.forall_mem_nil _, List.forall_mem_nil _, List.forall_mem_cons.mpr ⟨cl_virtual (y := y_Ho_writeByte) (ci := 12) rfl rfl ⟨_, _, rfl⟩ (by decide +kernel) h_Ho_writeByte wm_2345 wm_1 wm_2342 wm_2344 wv_12_0 ⟨by decide, by decide, by decide +kernel⟩ (by decide), List.forall_mem_cons.mpr ⟨cl_string (y := y_jStr_length) (i := 17) rfl rfl (by decide +kernel) rfl c_jStr_length_v201 wm_674 wm_11 wm_2340 wm_672 wm_673 ⟨by decide, by decide, by decide +kernel⟩ (by decide), List.forall_mem_cons.mpr ⟨cl_string (y := y_jStr_charAt) (i := 17) rfl rfl (by decide +kernel) rfl c_jStr_charAt_v202 wm_684 wm_11 wm_2341 wm_682 wm_683 ⟨by decide, by decide, by decide +kernel⟩ (by decide), List.forall_mem_nil _⟩⟩⟩, List.forall_mem_nil _, List.forall_mem_nil _, GG_pl⟩ (by decide +kernel)
def n_Ho_writeWord_at_s5018_an : List an_T := [(2, [(0, (2, 0, 0, [12])), (1, (2, 0, 0, [5018])), (2, (0, 0, 2, []))], [], (0, 0), [(0, 0, 99998), (1, 2, 2), (0, 0, 100000)], [], [], [], 0, [], [])]
def t_Ho_writeWord_at_s5018_ct : ct_L := [(1, 447, e_Ho_writeByte), (16, 438, e_jStr_length_v204), (43, 443, e_jStr_charAt_v205)]
set_option maxRecDepth 100000 in
theorem c_Ho_writeWord_at_s5018 {l : Launch} {D : va_G} {kA : Nat → ClassId} (h_Ho_writeByte : ct_ok l D kA GG y_Ho_writeByte z_Ho_writeByte e_Ho_writeByte) : ct_ok l D kA GG y_Ho_writeWord_at_s5018 z_Ho_writeWord_at_s5018 e_Ho_writeWord_at_s5018 := chk_all_ok (FT := []) (PT := []) (CT := t_Ho_writeWord_at_s5018_ct) (KT := []) (NT := []) (AN := n_Ho_writeWord_at_s5018_an) (OT := []) 3 200 (List.forall_mem_nil _) (by decide +kernel) ⟨List.forall_mem_nil _, List.forall_mem_nil _, List.forall_mem_cons.mpr ⟨cl_virtual (y := y_Ho_writeByte) (ci := 12) rfl rfl ⟨_, _, rfl⟩ (by decide +kernel) h_Ho_writeByte wm_2345 wm_1 wm_2342 wm_2344 wv_12_0 ⟨by decide, by decide, by decide +kernel⟩ (by decide), List.forall_mem_cons.mpr ⟨cl_string (y := y_jStr_length) (i := 18) rfl rfl (by decide +kernel) rfl c_jStr_length_v204 wm_674 wm_11 wm_2340 wm_672 wm_673 ⟨by decide, by decide, by decide +kernel⟩ (by decide), List.forall_mem_cons.mpr ⟨cl_string (y := y_jStr_charAt) (i := 18) rfl rfl (by decide +kernel) rfl c_jStr_charAt_v205 wm_684 wm_11 wm_2341 wm_682 wm_683 ⟨by decide, by decide, by decide +kernel⟩ (by decide), List.forall_mem_nil _⟩⟩⟩, List.forall_mem_nil _, List.forall_mem_nil _, GG_pl⟩ (by decide +kernel)
def n_Ho_writeWord_at_s5019_an : List an_T := [(2, [(0, (2, 0, 0, [12])), (1, (2, 0, 0, [5019])), (2, (0, 0, 3, []))], [], (0, 0), [(0, 0, 99998), (1, 2, 3), (0, 0, 100000)], [], [], [], 0, [], [])]
def t_Ho_writeWord_at_s5019_ct : ct_L := [(1, 447, e_Ho_writeByte), (16, 438, e_jStr_length_v207), (43, 443, e_jStr_charAt_v208)]
set_option maxRecDepth 100000 in
theorem c_Ho_writeWord_at_s5019 {l : Launch} {D : va_G} {kA : Nat → ClassId} (h_Ho_writeByte : ct_ok l D kA GG y_Ho_writeByte z_Ho_writeByte e_Ho_writeByte) : ct_ok l D kA GG y_Ho_writeWord_at_s5019 z_Ho_writeWord_at_s5019 e_Ho_writeWord_at_s5019 := chk_all_ok (FT := []) (PT := []) (CT := t_Ho_writeWord_at_s5019_ct) (KT := []) (NT := []) (AN := n_Ho_writeWord_at_s5019_an) (OT := []) 3 200 (List.forall_mem_nil _) (by decide +kernel) ⟨List.forall_mem_nil _, List.forall_mem_nil _, List.forall_mem_cons.mpr ⟨cl_virtual (y := y_Ho_writeByte) (ci := 12) rfl rfl ⟨_, _, rfl⟩ (by decide +kernel) h_Ho_writeByte wm_2345 wm_1 wm_2342 wm_2344 wv_12_0 ⟨by decide, by decide, by decide +kernel⟩ (by decide), List.forall_mem_cons.mpr ⟨cl_string (y := y_jStr_length) (i := 19) rfl rfl (by decide +kernel) rfl c_jStr_length_v207 wm_674 wm_11 wm_2340 wm_672 wm_673 ⟨by decide, by decide, by decide +kernel⟩ (by decide), List.forall_mem_cons.mpr ⟨cl_string (y := y_jStr_charAt) (i := 19) rfl rfl (by decide +kernel) rfl c_jStr_charAt_v208 wm_684 wm_11 wm_2341 wm_682 wm_683 ⟨by decide, by decide, by decide +kernel⟩ (by decide), List.forall_mem_nil _⟩⟩⟩, List.forall_mem_nil _, List.forall_mem_nil _, GG_pl⟩ (by decide +kernel)
def n_Ho_writeWord_at_s5020_an : List an_T := [(2, [(0, (2, 0, 0, [12])), (1, (2, 0, 0, [5020])), (2, (0, 0, 3, []))], [], (0, 0), [(0, 0, 99998), (1, 2, 3), (0, 0, 100000)], [], [], [], 0, [], [])]
def t_Ho_writeWord_at_s5020_ct : ct_L := [(1, 447, e_Ho_writeByte), (16, 438, e_jStr_length_v210), (43, 443, e_jStr_charAt_v211)]
set_option maxRecDepth 100000 in
theorem c_Ho_writeWord_at_s5020 {l : Launch} {D : va_G} {kA : Nat → ClassId} (h_Ho_writeByte : ct_ok l D kA GG y_Ho_writeByte z_Ho_writeByte e_Ho_writeByte) : ct_ok l D kA GG y_Ho_writeWord_at_s5020 z_Ho_writeWord_at_s5020 e_Ho_writeWord_at_s5020 := chk_all_ok (FT := []) (PT := []) (CT := t_Ho_writeWord_at_s5020_ct) (KT := []) (NT := []) (AN := n_Ho_writeWord_at_s5020_an) (OT := []) 3 200 (List.forall_mem_nil _) (by decide +kernel) ⟨List.forall_mem_nil _, List.forall_mem_nil _, List.forall_mem_cons.mpr ⟨cl_virtual (y := y_Ho_writeByte) (ci := 12) rfl rfl ⟨_, _, rfl⟩ (by decide +kernel) h_Ho_writeByte wm_2345 wm_1 wm_2342 wm_2344 wv_12_0 ⟨by decide, by decide, by decide +kernel⟩ (by decide), List.forall_mem_cons.mpr ⟨cl_string (y := y_jStr_length) (i := 20) rfl rfl (by decide +kernel) rfl c_jStr_length_v210 wm_674 wm_11 wm_2340 wm_672 wm_673 ⟨by decide, by decide, by decide +kernel⟩ (by decide), List.forall_mem_cons.mpr ⟨cl_string (y := y_jStr_charAt) (i := 20) rfl rfl (by decide +kernel) rfl c_jStr_charAt_v211 wm_684 wm_11 wm_2341 wm_682 wm_683 ⟨by decide, by decide, by decide +kernel⟩ (by decide), List.forall_mem_nil _⟩⟩⟩, List.forall_mem_nil _, List.forall_mem_nil _, GG_pl⟩ (by decide +kernel)
def n_Ho_writeWord_at_s5021_an : List an_T := [(2, [(0, (2, 0, 0, [12])), (1, (2, 0, 0, [5021])), (2, (0, 0, 9, []))], [], (0, 0), [(0, 0, 99998), (1, 2, 9), (0, 0, 100000)], [], [], [], 0, [], [])]
def t_Ho_writeWord_at_s5021_ct : ct_L := [(1, 447, e_Ho_writeByte), (16, 438, e_jStr_length_v213), (43, 443, e_jStr_charAt_v214)]
set_option maxRecDepth 100000 in
theorem c_Ho_writeWord_at_s5021 {l : Launch} {D : va_G} {kA : Nat → ClassId} (h_Ho_writeByte : ct_ok l D kA GG y_Ho_writeByte z_Ho_writeByte e_Ho_writeByte) : ct_ok l D kA GG y_Ho_writeWord_at_s5021 z_Ho_writeWord_at_s5021 e_Ho_writeWord_at_s5021 := chk_all_ok (FT := []) (PT := []) (CT := t_Ho_writeWord_at_s5021_ct) (KT := []) (NT := []) (AN := n_Ho_writeWord_at_s5021_an) (OT := []) 3 200 (List.forall_mem_nil _) (by decide +kernel) ⟨List.forall_mem_nil _, List.forall_mem_nil _, List.forall_mem_cons.mpr ⟨cl_virtual (y := y_Ho_writeByte) (ci := 12) rfl rfl ⟨_, _, rfl⟩ (by decide +kernel) h_Ho_writeByte wm_2345 wm_1 wm_2342 wm_2344 wv_12_0 ⟨by decide, by decide, by decide +kernel⟩ (by decide), List.forall_mem_cons.mpr ⟨cl_string (y := y_jStr_length) (i := 21) rfl rfl (by decide +kernel) rfl c_jStr_length_v213 wm_674 wm_11 wm_2340 wm_672 wm_673 ⟨by decide, by decide, by decide +kernel⟩ (by decide), List.forall_mem_cons.mpr ⟨cl_string (y := y_jStr_charAt) (i := 21) rfl rfl (by decide +kernel) rfl c_jStr_charAt_v214 wm_684 wm_11 wm_2341 wm_682 wm_683 ⟨by decide, by decide, by decide +kernel⟩ (by decide), List.forall_mem_nil _⟩⟩⟩, List.forall_mem_nil _, List.forall_mem_nil _, GG_pl⟩ (by decide +kernel)
def o_Gr_alter_at_kx_0 : or_T := (56, 13, [(10, (0, 122, 122, [])), (11, (0, 0, 0, [])), (12, (0, 3660, 3660, []))], [], [], [], [(21, [10, 12], [3782]), (21, [11, 12], [3782])], [], [])
theorem oo_Gr_alter_at_kx_0 {kA : Nat → ClassId} : or_ok kA GG o_Gr_alter_at_kx_0 := by
  intro A ta ws vs hD hth hl hk hds hf
  have hl : vs.length = 13 := hl
  have hk : ∀ q ∈ ([(10, (0, 122, 122, [])), (11, (0, 0, 0, [])), (12, (0, 3660, 3660, []))] : List (Nat × tv_T)), tv_ok ta q.2 (n_v vs q.1) := hk
  obtain ⟨t10, hk⟩ := List.forall_mem_cons.mp hk
  have t10 : tv_ok ta (0, 122, 122, []) (n_v vs 10) := t10
  have k10 : 122 ≤ v_iv (n_v vs 10) ∧ v_iv (n_v vs 10) ≤ 122 := tv_rng t10
  obtain ⟨t11, hk⟩ := List.forall_mem_cons.mp hk
  have t11 : tv_ok ta (0, 0, 0, []) (n_v vs 11) := t11
  have k11 : 0 ≤ v_iv (n_v vs 11) ∧ v_iv (n_v vs 11) ≤ 0 := tv_rng t11
  obtain ⟨t12, hk⟩ := List.forall_mem_cons.mp hk
  have t12 : tv_ok ta (0, 3660, 3660, []) (n_v vs 12) := t12
  have k12 : 3660 ≤ v_iv (n_v vs 12) ∧ v_iv (n_v vs 12) ≤ 3660 := tv_rng t12
  have nf0 : fc_1 (21, [10, 12], [3782]) ws (vs) := by
    refine ⟨fun n hn => ?_, ?_⟩
    · have hn : n ∈ [10, 12] := hn
      rw [hl]
      simp only [List.mem_cons, List.not_mem_nil, or_false] at hn
      show n < 13; omega
    · show v_iv (n_v vs 10) + v_iv (n_v vs 12) ≤ 3782
      omega
  have nf1 : fc_1 (21, [11, 12], [3782]) ws (vs) := by
    refine ⟨fun n hn => ?_, ?_⟩
    · have hn : n ∈ [11, 12] := hn
      rw [hl]
      simp only [List.mem_cons, List.not_mem_nil, or_false] at hn
      show n < 13; omega
    · show v_iv (n_v vs 11) + v_iv (n_v vs 12) ≤ 3782
      omega
  refine ⟨(fun _ h => (by cases h)), [], trivial, ?_, (fun _ h => (by cases h))⟩
  rw [List.append_nil]
  exact List.forall_mem_cons.mpr ⟨⟨show (21 : Nat) < 100 from by decide, nf0⟩, List.forall_mem_cons.mpr ⟨⟨show (21 : Nat) < 100 from by decide, nf1⟩, (fun _ h => (by cases h))⟩⟩
def o_Gr_alter_at_kx_1 : or_T := (56, 11, [(8, (0, 122, 122, [])), (9, (0, 0, 0, [])), (10, (0, 3660, 3660, []))], [], [], [], [(21, [8, 10], [3782]), (21, [9, 10], [3782])], [], [])
theorem oo_Gr_alter_at_kx_1 {kA : Nat → ClassId} : or_ok kA GG o_Gr_alter_at_kx_1 := by
  intro A ta ws vs hD hth hl hk hds hf
  have hl : vs.length = 11 := hl
  have hk : ∀ q ∈ ([(8, (0, 122, 122, [])), (9, (0, 0, 0, [])), (10, (0, 3660, 3660, []))] : List (Nat × tv_T)), tv_ok ta q.2 (n_v vs q.1) := hk
  obtain ⟨t8, hk⟩ := List.forall_mem_cons.mp hk
  have t8 : tv_ok ta (0, 122, 122, []) (n_v vs 8) := t8
  have k8 : 122 ≤ v_iv (n_v vs 8) ∧ v_iv (n_v vs 8) ≤ 122 := tv_rng t8
  obtain ⟨t9, hk⟩ := List.forall_mem_cons.mp hk
  have t9 : tv_ok ta (0, 0, 0, []) (n_v vs 9) := t9
  have k9 : 0 ≤ v_iv (n_v vs 9) ∧ v_iv (n_v vs 9) ≤ 0 := tv_rng t9
  obtain ⟨t10, hk⟩ := List.forall_mem_cons.mp hk
  have t10 : tv_ok ta (0, 3660, 3660, []) (n_v vs 10) := t10
  have k10 : 3660 ≤ v_iv (n_v vs 10) ∧ v_iv (n_v vs 10) ≤ 3660 := tv_rng t10
  have nf0 : fc_1 (21, [8, 10], [3782]) ws (vs) := by
    refine ⟨fun n hn => ?_, ?_⟩
    · have hn : n ∈ [8, 10] := hn
      rw [hl]
      simp only [List.mem_cons, List.not_mem_nil, or_false] at hn
      show n < 11; omega
    · show v_iv (n_v vs 8) + v_iv (n_v vs 10) ≤ 3782
      omega
  have nf1 : fc_1 (21, [9, 10], [3782]) ws (vs) := by
    refine ⟨fun n hn => ?_, ?_⟩
    · have hn : n ∈ [9, 10] := hn
      rw [hl]
      simp only [List.mem_cons, List.not_mem_nil, or_false] at hn
      show n < 11; omega
    · show v_iv (n_v vs 9) + v_iv (n_v vs 10) ≤ 3782
      omega
  refine ⟨(fun _ h => (by cases h)), [], trivial, ?_, (fun _ h => (by cases h))⟩
  rw [List.append_nil]
  exact List.forall_mem_cons.mpr ⟨⟨show (21 : Nat) < 100 from by decide, nf0⟩, List.forall_mem_cons.mpr ⟨⟨show (21 : Nat) < 100 from by decide, nf1⟩, (fun _ h => (by cases h))⟩⟩
def n_Gr_alter_at_kx_an : List an_T := []
def t_Gr_alter_at_kx_ct : ct_L := [(1, 126, e_Gr_pack), (88, 129, e_Gr_perform_at_kx), (171, 77, e_acp_82)]
set_option maxRecDepth 100000 in
theorem c_Gr_alter_at_kx {l : Launch} {D : va_G} {kA : Nat → ClassId} (h_Gr_pack : ct_ok l D kA GG y_Gr_pack z_Gr_pack e_Gr_pack) (h_Gr_perform_at_kx : ct_ok l D kA GG y_Gr_perform_at_kx z_Gr_perform_at_kx e_Gr_perform_at_kx) : ct_ok l D kA GG y_Gr_alter_at_kx z_Gr_alter_at_kx e_Gr_alter_at_kx := chk_all_ok (FT := [(62, 3, 16), (65, 3, 17)]) (PT := [(62, 3, 16, .array .int), (65, 3, 17, .int), (68, 3, 18, .int)]) (CT := t_Gr_alter_at_kx_ct) (KT := []) (NT := [(11, 61, .int)]) (AN := n_Gr_alter_at_kx_an) (OT := [o_Gr_alter_at_kx_0, o_Gr_alter_at_kx_1]) 0 404 (List.forall_mem_cons.mpr ⟨oo_Gr_alter_at_kx_0, List.forall_mem_cons.mpr ⟨oo_Gr_alter_at_kx_1, List.forall_mem_nil _⟩⟩) (by decide +kernel) ⟨List.forall_mem_cons.mpr ⟨gf_Gr_62, List.forall_mem_cons.mpr ⟨gf_Gr_65, List.forall_mem_nil _⟩⟩, List.forall_mem_cons.mpr ⟨pf_Gr_62, List.forall_mem_cons.mpr ⟨pf_Gr_65, List.forall_mem_cons.mpr ⟨pf_Gr_68, List.forall_mem_nil _⟩⟩⟩, List.forall_mem_cons.mpr ⟨cl_virtual (y := y_Gr_pack) (ci := 3) rfl rfl ⟨_, _, rfl⟩ (by decide +kernel) h_Gr_pack wm_979 wm_3 wm_976 wm_978 wv_2_14 ⟨by decide, by decide, by decide +kernel⟩ (by decide), List.forall_mem_cons.mpr ⟨cl_virtual (y := y_Gr_perform_at_kx) (ci := 3) rfl rfl ⟨_, _, rfl⟩ (by decide +kernel) h_Gr_perform_at_kx wm_987 wm_3 wm_984 wm_986 wv_3_0 ⟨by decide, by decide, by decide +kernel⟩ (by decide), List.forall_mem_cons.mpr ⟨cl_copyP (p1 := 122) (p2 := 0) (p3 := 3660) rfl (by decide +kernel) (by decide) wm_748 wm_750 wm_749 wm_15, List.forall_mem_nil _⟩⟩⟩, List.forall_mem_nil _, List.forall_mem_cons.mpr ⟨wm_193, List.forall_mem_nil _⟩, GG_pl⟩ (by decide +kernel)
def o_Re_isName_0 : or_T := (31, 4, [(0, (2, 0, 0, [8])), (1, (0, -128, 127, [])), (2, (0, 2, 2, [])), (3, (0, 0, 0, []))], [(7, [1, 2], [1]), (9, [1, 0], [7]), (20, [0, 0, 0, 0], [31, 1, -3, -1, 1, 7, 4008, 1, 1, 6, -1, 1, 8, 2000, 1, 7])], [], [], [(20, [0, 0, 3], [30, 2008, 1, 1, 6, -1, 1, 8, 2000, 0, 0])], [], [])
theorem oo_Re_isName_0 {kA : Nat → ClassId} : or_ok kA GG o_Re_isName_0 := by
  intro A ta ws vs hD hth hl hk hds hf
  have hl : vs.length = 4 := hl
  have hk : ∀ q ∈ ([(0, (2, 0, 0, [8])), (1, (0, -128, 127, [])), (2, (0, 2, 2, [])), (3, (0, 0, 0, []))] : List (Nat × tv_T)), tv_ok ta q.2 (n_v vs q.1) := hk
  obtain ⟨t0, hk⟩ := List.forall_mem_cons.mp hk
  have t0 : tv_ok ta (2, 0, 0, [8]) (n_v vs 0) := t0
  have r0 : ta (v_ad (n_v vs 0)) = some 8 := tv_rg t0
  obtain ⟨t1, hk⟩ := List.forall_mem_cons.mp hk
  have t1 : tv_ok ta (0, -128, 127, []) (n_v vs 1) := t1
  have k1 : (-128) ≤ v_iv (n_v vs 1) ∧ v_iv (n_v vs 1) ≤ 127 := tv_rng t1
  obtain ⟨t2, hk⟩ := List.forall_mem_cons.mp hk
  have t2 : tv_ok ta (0, 2, 2, []) (n_v vs 2) := t2
  have k2 : 2 ≤ v_iv (n_v vs 2) ∧ v_iv (n_v vs 2) ≤ 2 := tv_rng t2
  obtain ⟨t3, hk⟩ := List.forall_mem_cons.mp hk
  have t3 : tv_ok ta (0, 0, 0, []) (n_v vs 3) := t3
  have k3 : 0 ≤ v_iv (n_v vs 3) ∧ v_iv (n_v vs 3) ≤ 0 := tv_rng t3
  have hf : fc_ok [(7, [1, 2], [1]), (9, [1, 0], [7]), (20, [0, 0, 0, 0], [31, 1, -3, -1, 1, 7, 4008, 1, 1, 6, -1, 1, 8, 2000, 1, 7])] ta ws vs := hf
  obtain ⟨f0, hf⟩ := fc_un (show (7 : Nat) < 100 from by decide) hf
  have f0 : v_iv (n_v vs 1) ≠ v_iv (n_v vs 2) := f0
  obtain ⟨f1, hf⟩ := fc_un (show (9 : Nat) < 100 from by decide) hf
  have f1 : n_v vs 1 = w_fd ws (v_ad (n_v vs 0)) 7 := f1
  obtain ⟨f2, hf⟩ := fc_un (show (20 : Nat) < 100 from by decide) hf
  have f2 : ((-1) * w_fi ws (n_v vs 0) 7 + 0 ≤ (-3)) ∨ (1 * w_fi ws (n_v vs 0) 6 + ((-1) * w_fi ws (n_v vs 0) 8 + (2000 * w_fi ws (n_v vs 0) 7 + 0)) ≤ 4008) := f2
  have g1 : v_iv (n_v vs 1) = w_fi ws (n_v vs 0) 7 := congrArg v_iv f1
  have kz_0_6 : 0 ≤ w_fi ws (n_v vs 0) 6 ∧ w_fi ws (n_v vs 0) 6 ≤ 2000 := tv_rng (th_fd hD hth r0 (g := GG_8) rfl (k := 6) (t := (0, 0, 2000, [])) rfl rfl)
  have kz_0_7 : (-128) ≤ w_fi ws (n_v vs 0) 7 ∧ w_fi ws (n_v vs 0) 7 ≤ 127 := tv_rng (th_fd hD hth r0 (g := GG_8) rfl (k := 7) (t := (0, -128, 127, [])) rfl rfl)
  have kz_0_8 : 0 ≤ w_fi ws (n_v vs 0) 8 ∧ w_fi ws (n_v vs 0) 8 ≤ 2000 := tv_rng (th_fd hD hth r0 (g := GG_8) rfl (k := 8) (t := (0, 0, 2000, [])) rfl rfl)
  have nf0 : fc_1 (20, [0, 0, 3], [30, 2008, 1, 1, 6, -1, 1, 8, 2000, 0, 0]) ws (vs) := by
    refine ⟨fun n hn => ?_, ?_⟩
    · have hn : n ∈ [0, 0, 3] := hn
      rw [hl]
      simp only [List.mem_cons, List.not_mem_nil, or_false] at hn
      show n < 4; omega
    · show 1 * w_fi ws (n_v vs 0) 6 + ((-1) * w_fi ws (n_v vs 0) 8 + (2000 * v_iv (n_v vs 3) + 0)) ≤ 2008
      omega
  refine ⟨(fun _ h => (by cases h)), [], trivial, ?_, (fun _ h => (by cases h))⟩
  rw [List.append_nil]
  exact List.forall_mem_cons.mpr ⟨⟨show (20 : Nat) < 100 from by decide, nf0⟩, (fun _ h => (by cases h))⟩
def o_Re_isName_1 : or_T := (8, 3, [(0, (2, 0, 0, [8])), (1, (0, 2, 2, [])), (2, (0, 2, 2, []))], [(7, [1, 2], [0]), (9, [1, 0], [7]), (20, [0, 0, 0, 0], [31, 1, -3, -1, 1, 7, 4008, 1, 1, 6, -1, 1, 8, 2000, 1, 7])], [], [], [(20, [0], [30, 2, 1, 1, 7]), (20, [0], [30, -2, -1, 1, 7])], [], [])
theorem oo_Re_isName_1 {kA : Nat → ClassId} : or_ok kA GG o_Re_isName_1 := by
  intro A ta ws vs hD hth hl hk hds hf
  have hl : vs.length = 3 := hl
  have hk : ∀ q ∈ ([(0, (2, 0, 0, [8])), (1, (0, 2, 2, [])), (2, (0, 2, 2, []))] : List (Nat × tv_T)), tv_ok ta q.2 (n_v vs q.1) := hk
  obtain ⟨t0, hk⟩ := List.forall_mem_cons.mp hk
  have t0 : tv_ok ta (2, 0, 0, [8]) (n_v vs 0) := t0
  have r0 : ta (v_ad (n_v vs 0)) = some 8 := tv_rg t0
  obtain ⟨t1, hk⟩ := List.forall_mem_cons.mp hk
  have t1 : tv_ok ta (0, 2, 2, []) (n_v vs 1) := t1
  have k1 : 2 ≤ v_iv (n_v vs 1) ∧ v_iv (n_v vs 1) ≤ 2 := tv_rng t1
  obtain ⟨t2, hk⟩ := List.forall_mem_cons.mp hk
  have t2 : tv_ok ta (0, 2, 2, []) (n_v vs 2) := t2
  have k2 : 2 ≤ v_iv (n_v vs 2) ∧ v_iv (n_v vs 2) ≤ 2 := tv_rng t2
  have hf : fc_ok [(7, [1, 2], [0]), (9, [1, 0], [7]), (20, [0, 0, 0, 0], [31, 1, -3, -1, 1, 7, 4008, 1, 1, 6, -1, 1, 8, 2000, 1, 7])] ta ws vs := hf
  obtain ⟨f0, hf⟩ := fc_un (show (7 : Nat) < 100 from by decide) hf
  have f0 : v_iv (n_v vs 1) = v_iv (n_v vs 2) := f0
  obtain ⟨f1, hf⟩ := fc_un (show (9 : Nat) < 100 from by decide) hf
  have f1 : n_v vs 1 = w_fd ws (v_ad (n_v vs 0)) 7 := f1
  obtain ⟨f2, hf⟩ := fc_un (show (20 : Nat) < 100 from by decide) hf
  have f2 : ((-1) * w_fi ws (n_v vs 0) 7 + 0 ≤ (-3)) ∨ (1 * w_fi ws (n_v vs 0) 6 + ((-1) * w_fi ws (n_v vs 0) 8 + (2000 * w_fi ws (n_v vs 0) 7 + 0)) ≤ 4008) := f2
  have g1 : v_iv (n_v vs 1) = w_fi ws (n_v vs 0) 7 := congrArg v_iv f1
  have kz_0_6 : 0 ≤ w_fi ws (n_v vs 0) 6 ∧ w_fi ws (n_v vs 0) 6 ≤ 2000 := tv_rng (th_fd hD hth r0 (g := GG_8) rfl (k := 6) (t := (0, 0, 2000, [])) rfl rfl)
  have kz_0_7 : (-128) ≤ w_fi ws (n_v vs 0) 7 ∧ w_fi ws (n_v vs 0) 7 ≤ 127 := tv_rng (th_fd hD hth r0 (g := GG_8) rfl (k := 7) (t := (0, -128, 127, [])) rfl rfl)
  have kz_0_8 : 0 ≤ w_fi ws (n_v vs 0) 8 ∧ w_fi ws (n_v vs 0) 8 ≤ 2000 := tv_rng (th_fd hD hth r0 (g := GG_8) rfl (k := 8) (t := (0, 0, 2000, [])) rfl rfl)
  have nf0 : fc_1 (20, [0], [30, 2, 1, 1, 7]) ws (vs) := by
    refine ⟨fun n hn => ?_, ?_⟩
    · have hn : n ∈ [0] := hn
      rw [hl]
      simp only [List.mem_cons, List.not_mem_nil, or_false] at hn
      show n < 3; omega
    · show 1 * w_fi ws (n_v vs 0) 7 + 0 ≤ 2
      omega
  have nf1 : fc_1 (20, [0], [30, -2, -1, 1, 7]) ws (vs) := by
    refine ⟨fun n hn => ?_, ?_⟩
    · have hn : n ∈ [0] := hn
      rw [hl]
      simp only [List.mem_cons, List.not_mem_nil, or_false] at hn
      show n < 3; omega
    · show (-1) * w_fi ws (n_v vs 0) 7 + 0 ≤ (-2)
      omega
  refine ⟨(fun _ h => (by cases h)), [], trivial, ?_, (fun _ h => (by cases h))⟩
  rw [List.append_nil]
  exact List.forall_mem_cons.mpr ⟨⟨show (20 : Nat) < 100 from by decide, nf0⟩, List.forall_mem_cons.mpr ⟨⟨show (20 : Nat) < 100 from by decide, nf1⟩, (fun _ h => (by cases h))⟩⟩
def o_Re_isName_2 : or_T := (31, 6, [(0, (2, 0, 0, [8])), (5, (0, 0, 0, []))], [(20, [0], [30, 2, 1, 1, 7]), (20, [0], [30, -2, -1, 1, 7]), (20, [0, 0, 0, 0], [31, 1, -3, -1, 1, 7, 4008, 1, 1, 6, -1, 1, 8, 2000, 1, 7])], [], [], [(20, [0, 0, 5], [30, 2008, 1, 1, 6, -1, 1, 8, 2000, 0, 0])], [], [])
theorem oo_Re_isName_2 {kA : Nat → ClassId} : or_ok kA GG o_Re_isName_2 := by
  intro A ta ws vs hD hth hl hk hds hf
  have hl : vs.length = 6 := hl
  have hk : ∀ q ∈ ([(0, (2, 0, 0, [8])), (5, (0, 0, 0, []))] : List (Nat × tv_T)), tv_ok ta q.2 (n_v vs q.1) := hk
  obtain ⟨t0, hk⟩ := List.forall_mem_cons.mp hk
  have t0 : tv_ok ta (2, 0, 0, [8]) (n_v vs 0) := t0
  have r0 : ta (v_ad (n_v vs 0)) = some 8 := tv_rg t0
  obtain ⟨t5, hk⟩ := List.forall_mem_cons.mp hk
  have t5 : tv_ok ta (0, 0, 0, []) (n_v vs 5) := t5
  have k5 : 0 ≤ v_iv (n_v vs 5) ∧ v_iv (n_v vs 5) ≤ 0 := tv_rng t5
  have hf : fc_ok [(20, [0], [30, 2, 1, 1, 7]), (20, [0], [30, -2, -1, 1, 7]), (20, [0, 0, 0, 0], [31, 1, -3, -1, 1, 7, 4008, 1, 1, 6, -1, 1, 8, 2000, 1, 7])] ta ws vs := hf
  obtain ⟨f0, hf⟩ := fc_un (show (20 : Nat) < 100 from by decide) hf
  have f0 : 1 * w_fi ws (n_v vs 0) 7 + 0 ≤ 2 := f0
  obtain ⟨f1, hf⟩ := fc_un (show (20 : Nat) < 100 from by decide) hf
  have f1 : (-1) * w_fi ws (n_v vs 0) 7 + 0 ≤ (-2) := f1
  obtain ⟨f2, hf⟩ := fc_un (show (20 : Nat) < 100 from by decide) hf
  have f2 : ((-1) * w_fi ws (n_v vs 0) 7 + 0 ≤ (-3)) ∨ (1 * w_fi ws (n_v vs 0) 6 + ((-1) * w_fi ws (n_v vs 0) 8 + (2000 * w_fi ws (n_v vs 0) 7 + 0)) ≤ 4008) := f2
  have kz_0_6 : 0 ≤ w_fi ws (n_v vs 0) 6 ∧ w_fi ws (n_v vs 0) 6 ≤ 2000 := tv_rng (th_fd hD hth r0 (g := GG_8) rfl (k := 6) (t := (0, 0, 2000, [])) rfl rfl)
  have kz_0_7 : (-128) ≤ w_fi ws (n_v vs 0) 7 ∧ w_fi ws (n_v vs 0) 7 ≤ 127 := tv_rng (th_fd hD hth r0 (g := GG_8) rfl (k := 7) (t := (0, -128, 127, [])) rfl rfl)
  have kz_0_8 : 0 ≤ w_fi ws (n_v vs 0) 8 ∧ w_fi ws (n_v vs 0) 8 ≤ 2000 := tv_rng (th_fd hD hth r0 (g := GG_8) rfl (k := 8) (t := (0, 0, 2000, [])) rfl rfl)
  have nf0 : fc_1 (20, [0, 0, 5], [30, 2008, 1, 1, 6, -1, 1, 8, 2000, 0, 0]) ws (vs) := by
    refine ⟨fun n hn => ?_, ?_⟩
    · have hn : n ∈ [0, 0, 5] := hn
      rw [hl]
      simp only [List.mem_cons, List.not_mem_nil, or_false] at hn
      show n < 6; omega
    · show 1 * w_fi ws (n_v vs 0) 6 + ((-1) * w_fi ws (n_v vs 0) 8 + (2000 * v_iv (n_v vs 5) + 0)) ≤ 2008
      omega
  refine ⟨(fun _ h => (by cases h)), [], trivial, ?_, (fun _ h => (by cases h))⟩
  rw [List.append_nil]
  exact List.forall_mem_cons.mpr ⟨⟨show (20 : Nat) < 100 from by decide, nf0⟩, (fun _ h => (by cases h))⟩
def o_Re_isName_3 : or_T := (31, 8, [(0, (2, 0, 0, [8])), (7, (0, 0, 0, []))], [(20, [0], [30, 2, 1, 1, 7]), (20, [0], [30, -2, -1, 1, 7]), (20, [0, 0, 0, 0], [31, 1, -3, -1, 1, 7, 4008, 1, 1, 6, -1, 1, 8, 2000, 1, 7])], [], [], [(20, [0, 0, 7], [30, 2008, 1, 1, 6, -1, 1, 8, 2000, 0, 0])], [], [])
theorem oo_Re_isName_3 {kA : Nat → ClassId} : or_ok kA GG o_Re_isName_3 := by
  intro A ta ws vs hD hth hl hk hds hf
  have hl : vs.length = 8 := hl
  have hk : ∀ q ∈ ([(0, (2, 0, 0, [8])), (7, (0, 0, 0, []))] : List (Nat × tv_T)), tv_ok ta q.2 (n_v vs q.1) := hk
  obtain ⟨t0, hk⟩ := List.forall_mem_cons.mp hk
  have t0 : tv_ok ta (2, 0, 0, [8]) (n_v vs 0) := t0
  have r0 : ta (v_ad (n_v vs 0)) = some 8 := tv_rg t0
  obtain ⟨t7, hk⟩ := List.forall_mem_cons.mp hk
  have t7 : tv_ok ta (0, 0, 0, []) (n_v vs 7) := t7
  have k7 : 0 ≤ v_iv (n_v vs 7) ∧ v_iv (n_v vs 7) ≤ 0 := tv_rng t7
  have hf : fc_ok [(20, [0], [30, 2, 1, 1, 7]), (20, [0], [30, -2, -1, 1, 7]), (20, [0, 0, 0, 0], [31, 1, -3, -1, 1, 7, 4008, 1, 1, 6, -1, 1, 8, 2000, 1, 7])] ta ws vs := hf
  obtain ⟨f0, hf⟩ := fc_un (show (20 : Nat) < 100 from by decide) hf
  have f0 : 1 * w_fi ws (n_v vs 0) 7 + 0 ≤ 2 := f0
  obtain ⟨f1, hf⟩ := fc_un (show (20 : Nat) < 100 from by decide) hf
  have f1 : (-1) * w_fi ws (n_v vs 0) 7 + 0 ≤ (-2) := f1
  obtain ⟨f2, hf⟩ := fc_un (show (20 : Nat) < 100 from by decide) hf
  have f2 : ((-1) * w_fi ws (n_v vs 0) 7 + 0 ≤ (-3)) ∨ (1 * w_fi ws (n_v vs 0) 6 + ((-1) * w_fi ws (n_v vs 0) 8 + (2000 * w_fi ws (n_v vs 0) 7 + 0)) ≤ 4008) := f2
  have kz_0_6 : 0 ≤ w_fi ws (n_v vs 0) 6 ∧ w_fi ws (n_v vs 0) 6 ≤ 2000 := tv_rng (th_fd hD hth r0 (g := GG_8) rfl (k := 6) (t := (0, 0, 2000, [])) rfl rfl)
  have kz_0_7 : (-128) ≤ w_fi ws (n_v vs 0) 7 ∧ w_fi ws (n_v vs 0) 7 ≤ 127 := tv_rng (th_fd hD hth r0 (g := GG_8) rfl (k := 7) (t := (0, -128, 127, [])) rfl rfl)
  have kz_0_8 : 0 ≤ w_fi ws (n_v vs 0) 8 ∧ w_fi ws (n_v vs 0) 8 ≤ 2000 := tv_rng (th_fd hD hth r0 (g := GG_8) rfl (k := 8) (t := (0, 0, 2000, [])) rfl rfl)
  have nf0 : fc_1 (20, [0, 0, 7], [30, 2008, 1, 1, 6, -1, 1, 8, 2000, 0, 0]) ws (vs) := by
    refine ⟨fun n hn => ?_, ?_⟩
    · have hn : n ∈ [0, 0, 7] := hn
      rw [hl]
      simp only [List.mem_cons, List.not_mem_nil, or_false] at hn
      show n < 8; omega
    · show 1 * w_fi ws (n_v vs 0) 6 + ((-1) * w_fi ws (n_v vs 0) 8 + (2000 * v_iv (n_v vs 7) + 0)) ≤ 2008
      omega
  refine ⟨(fun _ h => (by cases h)), [], trivial, ?_, (fun _ h => (by cases h))⟩
  rw [List.append_nil]
  exact List.forall_mem_cons.mpr ⟨⟨show (20 : Nat) < 100 from by decide, nf0⟩, (fun _ h => (by cases h))⟩
def o_Re_isName_4 : or_T := (31, 8, [(0, (2, 0, 0, [8])), (7, (0, 1, 1, []))], [(20, [0], [30, 2, 1, 1, 7]), (20, [0], [30, -2, -1, 1, 7]), (20, [0, 0, 0, 0], [31, 1, -3, -1, 1, 7, 4008, 1, 1, 6, -1, 1, 8, 2000, 1, 7])], [], [], [(20, [0, 0, 7], [30, 2008, 1, 1, 6, -1, 1, 8, 2000, 0, 0])], [], [])
theorem oo_Re_isName_4 {kA : Nat → ClassId} : or_ok kA GG o_Re_isName_4 := by
  intro A ta ws vs hD hth hl hk hds hf
  have hl : vs.length = 8 := hl
  have hk : ∀ q ∈ ([(0, (2, 0, 0, [8])), (7, (0, 1, 1, []))] : List (Nat × tv_T)), tv_ok ta q.2 (n_v vs q.1) := hk
  obtain ⟨t0, hk⟩ := List.forall_mem_cons.mp hk
  have t0 : tv_ok ta (2, 0, 0, [8]) (n_v vs 0) := t0
  have r0 : ta (v_ad (n_v vs 0)) = some 8 := tv_rg t0
  obtain ⟨t7, hk⟩ := List.forall_mem_cons.mp hk
  have t7 : tv_ok ta (0, 1, 1, []) (n_v vs 7) := t7
  have k7 : 1 ≤ v_iv (n_v vs 7) ∧ v_iv (n_v vs 7) ≤ 1 := tv_rng t7
  have hf : fc_ok [(20, [0], [30, 2, 1, 1, 7]), (20, [0], [30, -2, -1, 1, 7]), (20, [0, 0, 0, 0], [31, 1, -3, -1, 1, 7, 4008, 1, 1, 6, -1, 1, 8, 2000, 1, 7])] ta ws vs := hf
  obtain ⟨f0, hf⟩ := fc_un (show (20 : Nat) < 100 from by decide) hf
  have f0 : 1 * w_fi ws (n_v vs 0) 7 + 0 ≤ 2 := f0
  obtain ⟨f1, hf⟩ := fc_un (show (20 : Nat) < 100 from by decide) hf
  have f1 : (-1) * w_fi ws (n_v vs 0) 7 + 0 ≤ (-2) := f1
  obtain ⟨f2, hf⟩ := fc_un (show (20 : Nat) < 100 from by decide) hf
  have f2 : ((-1) * w_fi ws (n_v vs 0) 7 + 0 ≤ (-3)) ∨ (1 * w_fi ws (n_v vs 0) 6 + ((-1) * w_fi ws (n_v vs 0) 8 + (2000 * w_fi ws (n_v vs 0) 7 + 0)) ≤ 4008) := f2
  have kz_0_6 : 0 ≤ w_fi ws (n_v vs 0) 6 ∧ w_fi ws (n_v vs 0) 6 ≤ 2000 := tv_rng (th_fd hD hth r0 (g := GG_8) rfl (k := 6) (t := (0, 0, 2000, [])) rfl rfl)
  have kz_0_7 : (-128) ≤ w_fi ws (n_v vs 0) 7 ∧ w_fi ws (n_v vs 0) 7 ≤ 127 := tv_rng (th_fd hD hth r0 (g := GG_8) rfl (k := 7) (t := (0, -128, 127, [])) rfl rfl)
  have kz_0_8 : 0 ≤ w_fi ws (n_v vs 0) 8 ∧ w_fi ws (n_v vs 0) 8 ≤ 2000 := tv_rng (th_fd hD hth r0 (g := GG_8) rfl (k := 8) (t := (0, 0, 2000, [])) rfl rfl)
  have nf0 : fc_1 (20, [0, 0, 7], [30, 2008, 1, 1, 6, -1, 1, 8, 2000, 0, 0]) ws (vs) := by
    refine ⟨fun n hn => ?_, ?_⟩
    · have hn : n ∈ [0, 0, 7] := hn
      rw [hl]
      simp only [List.mem_cons, List.not_mem_nil, or_false] at hn
      show n < 8; omega
    · show 1 * w_fi ws (n_v vs 0) 6 + ((-1) * w_fi ws (n_v vs 0) 8 + (2000 * v_iv (n_v vs 7) + 0)) ≤ 2008
      omega
  refine ⟨(fun _ h => (by cases h)), [], trivial, ?_, (fun _ h => (by cases h))⟩
  rw [List.append_nil]
  exact List.forall_mem_cons.mpr ⟨⟨show (20 : Nat) < 100 from by decide, nf0⟩, (fun _ h => (by cases h))⟩
def n_Re_isName_an : List an_T := []
def t_Re_isName_ct : ct_L := [(37, 95, e_Re_isWord_at_s5000), (64, 95, e_Re_isWord_at_s5001), (1000000, 93, en_ro [] (2, 0, 0, [5000])), (1000000, 99, en_ro [] (2, 0, 0, [5001]))]
set_option maxRecDepth 100000 in
theorem c_Re_isName {l : Launch} {D : va_G} {kA : Nat → ClassId} (h_Re_isWord_at_s5000 : ct_ok l D kA GG y_Re_isWord_at_s5000 z_Re_isWord_at_s5000 e_Re_isWord_at_s5000) (h_Re_isWord_at_s5001 : ct_ok l D kA GG y_Re_isWord_at_s5001 z_Re_isWord_at_s5001 e_Re_isWord_at_s5001) : ct_ok l D kA GG y_Re_isName z_Re_isName e_Re_isName := chk_all_ok (FT := [(38, 8, 7)]) (PT := []) (CT := t_Re_isName_ct) (KT := []) (NT := []) (AN := n_Re_isName_an) (OT := [o_Re_isName_0, o_Re_isName_1, o_Re_isName_2, o_Re_isName_3, o_Re_isName_4]) 0 200 (List.forall_mem_cons.mpr ⟨oo_Re_isName_0, List.forall_mem_cons.mpr ⟨oo_Re_isName_1, List.forall_mem_cons.mpr ⟨oo_Re_isName_2, List.forall_mem_cons.mpr ⟨oo_Re_isName_3, List.forall_mem_cons.mpr ⟨oo_Re_isName_4, List.forall_mem_nil _⟩⟩⟩⟩⟩) (by decide +kernel) ⟨List.forall_mem_cons.mpr ⟨gf_Re_38, List.forall_mem_nil _⟩, List.forall_mem_nil _, List.forall_mem_cons.mpr ⟨cl_virtual (y := y_Re_isWord_at_s5000) (ci := 8) rfl rfl ⟨_, _, rfl⟩ (by decide +kernel) h_Re_isWord_at_s5000 wm_670 wm_2 wm_667 wm_669 wv_1_2 ⟨by decide, by decide, by decide +kernel⟩ (by decide), List.forall_mem_cons.mpr ⟨cl_virtual (y := y_Re_isWord_at_s5001) (ci := 8) rfl rfl ⟨_, _, rfl⟩ (by decide +kernel) h_Re_isWord_at_s5001 wm_670 wm_2 wm_667 wm_669 wv_1_2 ⟨by decide, by decide, by decide +kernel⟩ (by decide), List.forall_mem_cons.mpr ⟨cl_ldc (own := "DrawingHouse$Reader") (idx := 93) (i := 0) (tx := "node") (by decide +kernel) (by decide +kernel) (by decide +kernel), List.forall_mem_cons.mpr ⟨cl_ldc (own := "DrawingHouse$Reader") (idx := 99) (i := 1) (tx := "group") (by decide +kernel) (by decide +kernel) (by decide +kernel), List.forall_mem_nil _⟩⟩⟩⟩, List.forall_mem_nil _, List.forall_mem_nil _, GG_pl⟩ (by decide +kernel)
def n_Sy_advance_an : List an_T := [(0, [(0, (2, 0, 0, [11]))], [], (0, 0), [(0, 0, 100000), (1, 1, 2000), (0, 0, 100000)], [], [((0, 5), (0, 0, 2000, [])), ((0, 3), (2, 0, 0, [109]))], [], 0, [], []), (39, [(0, (2, 0, 0, [11]))], [], (0, 0), [(0, 0, 100000), (1, 2, 2000), (0, 0, 99961)], [(1, 2, -1000000000000, 2000), (2, 1, -1000000000000, -1)], [((0, 4), (0, 1, 2000, [])), ((0, 5), (0, 0, 1999, [])), ((0, 3), (2, 0, 0, [109]))], [], 0, [], []), (52, [(0, (2, 0, 0, [11]))], [], (0, 0), [(0, 0, 99948), (0, 0, 0), (0, 0, 0)], [(1, 2, -1000000000000, 2000), (2, 1, -1000000000000, 2000)], [((0, 4), (0, 0, 2000, [])), ((0, 5), (0, 0, 2000, [])), ((0, 3), (2, 0, 0, [109]))], [], 0, [], []), (94, [(0, (2, 0, 0, [11])), (1, (0, -128, 127, []))], [], (0, 0), [(0, 0, 99906), (1, 2, 2000), (0, 0, 100000)], [(1, 2, -1000000000000, 127), (2, 1, -1000000000000, 2128)], [((0, 5), (0, 0, 2000, [])), ((0, 3), (2, 0, 0, [109]))], [], 0, [], []), (133, [(0, (2, 0, 0, [11])), (1, (0, -128, 127, []))], [], (0, 0), [(0, 0, 99867), (0, 0, 0), (0, 0, 0)], [(1, 2, -1000000000000, 127), (1, 3, -1000000000000, 127), (2, 1, -1000000000000, 2128), (2, 3, -1000000000000, 2000), (3, 1, -1000000000000, 2128), (3, 2, -1000000000000, 2000)], [((0, 4), (0, 0, 2000, [])), ((0, 5), (0, 0, 2000, [])), ((0, 3), (2, 0, 0, [109]))], [], 0, [], []), (153, [(0, (2, 0, 0, [11])), (1, (0, -128, 127, []))], [(0, 1, 2, []), (2, 0, 0, [11])], (0, 0), [(0, 0, 99847), (0, 0, 0), (0, 0, 0)], [(1, 2, -1000000000000, 126), (1, 4, -1000000000000, 127), (1, 5, -1000000000000, 127), (1, 6, -1000000000000, 127), (2, 1, -1000000000000, 130), (2, 4, -1000000000000, 2), (2, 5, -1000000000000, 2), (2, 6, -1000000000000, 2), (4, 1, -1000000000000, 2128), (4, 2, -1000000000000, 1999), (4, 5, -1000000000000, 2000), (4, 6, -1000000000000, 2000), (5, 1, -1000000000000, 2128), (5, 2, -1000000000000, 1999), (5, 4, -1000000000000, 2000), (5, 6, -1000000000000, 2000), (6, 1, -1000000000000, 2128), (6, 2, -1000000000000, 1999), (6, 4, -1000000000000, 2000), (6, 5, -1000000000000, 2000)], [((0, 7), (0, 0, 2000, [])), ((0, 4), (0, 0, 2000, [])), ((0, 5), (0, 0, 2000, [])), ((0, 3), (2, 0, 0, [109]))], [], 0, [], []), (171, [(0, (2, 0, 0, [11])), (1, (0, -128, 127, []))], [], (0, 0), [(0, 0, 99829), (1, 3, 2000), (0, 0, 100000)], [(1, 3, -1000000000000, 127), (3, 1, -1000000000000, 2128)], [((0, 8), (0, -2147483648, 1000000, [])), ((0, 5), (0, 0, 2000, [])), ((0, 3), (2, 0, 0, [109]))], [], 0, [], []), (239, [(0, (2, 0, 0, [11])), (1, (0, -128, 127, []))], [], (0, 0), [(0, 0, 99761), (0, 0, 0), (0, 0, 0)], [(1, 2, -1000000000000, 127), (1, 4, -1000000000000, 127), (2, 1, -1000000000000, 2128), (2, 4, -1000000000000, 2000), (4, 1, -1000000000000, 2128), (4, 2, -1000000000000, 2000)], [((0, 4), (0, 0, 2000, [])), ((0, 8), (0, -2147483648, 1000000, [])), ((0, 5), (0, 0, 2000, [])), ((0, 3), (2, 0, 0, [109]))], [], 0, [], []), (258, [(0, (2, 0, 0, [11])), (1, (0, -128, 127, []))], [(0, 1, 3, []), (2, 0, 0, [11])], (0, 0), [(0, 0, 99742), (0, 0, 0), (0, 0, 0)], [(1, 2, -1000000000000, 126), (1, 4, -1000000000000, 127), (1, 5, -1000000000000, 127), (1, 7, -1000000000000, 127), (2, 1, -1000000000000, 131), (2, 4, -1000000000000, 3), (2, 5, -1000000000000, 3), (2, 7, -1000000000000, 3), (4, 1, -1000000000000, 2128), (4, 2, -1000000000000, 1999), (4, 5, -1000000000000, 2000), (4, 7, -1000000000000, 2000), (5, 1, -1000000000000, 2128), (5, 2, -1000000000000, 1999), (5, 4, -1000000000000, 2000), (5, 7, -1000000000000, 2000), (7, 1, -1000000000000, 2128), (7, 2, -1000000000000, 1999), (7, 4, -1000000000000, 2000), (7, 5, -1000000000000, 2000)], [((0, 7), (0, 0, 2000, [])), ((0, 4), (0, 0, 2000, [])), ((0, 8), (0, -2147483648, 1000000, [])), ((0, 5), (0, 0, 2000, [])), ((0, 3), (2, 0, 0, [109]))], [], 0, [], []), (293, [(0, (2, 0, 0, [11])), (1, (0, -128, 127, []))], [(2, 0, 0, [11])], (0, 0), [(0, 0, 99707), (0, 0, 0), (0, 0, 0)], [(1, 3, -1000000000000, 126), (1, 4, -1000000000000, 127), (1, 5, -1000000000000, 126), (3, 1, -1000000000000, 2128), (3, 4, -1000000000000, 1), (3, 5, -1000000000000, 0), (4, 1, -1000000000000, 2127), (4, 3, -1000000000000, -1), (4, 5, -1000000000000, -1), (5, 1, -1000000000000, 2128), (5, 3, -1000000000000, 1999), (5, 4, -1000000000000, 2000)], [((0, 5), (0, 1, 2000, [])), ((0, 7), (0, 0, 1999, [])), ((0, 4), (0, 1, 2000, [])), ((0, 3), (2, 0, 0, [109]))], [], 0, [], []), (294, [(0, (2, 0, 0, [11])), (1, (0, -128, 127, []))], [(0, 1, 127, []), (2, 0, 0, [11])], (0, 0), [(0, 0, 99706), (0, 0, 0), (0, 0, 0)], [(1, 2, -1000000000000, 126), (1, 4, -1000000000000, 126), (1, 5, -1000000000000, 127), (1, 6, -1000000000000, 126), (2, 1, -1000000000000, 129), (2, 4, -1000000000000, 126), (2, 5, -1000000000000, 127), (2, 6, -1000000000000, 126), (4, 1, -1000000000000, 2128), (4, 2, -1000000000000, 1999), (4, 5, -1000000000000, 1), (4, 6, -1000000000000, 0), (5, 1, -1000000000000, 2127), (5, 2, -1000000000000, 1998), (5, 4, -1000000000000, -1), (5, 6, -1000000000000, -1), (6, 1, -1000000000000, 2128), (6, 2, -1000000000000, 1999), (6, 4, -1000000000000, 1999), (6, 5, -1000000000000, 2000)], [((0, 5), (0, 1, 2000, [])), ((0, 7), (0, 0, 1999, [])), ((0, 4), (0, 1, 2000, [])), ((0, 3), (2, 0, 0, [109]))], [], 0, [], []), (297, [(0, (2, 0, 0, [11])), (1, (0, -128, 127, []))], [], (0, 0), [(0, 0, 99703), (0, 0, 0), (0, 0, 0)], [(1, 2, -1000000000000, 127), (1, 3, -1000000000000, 127), (1, 4, -1000000000000, 127), (2, 1, -1000000000000, 2128), (2, 3, -1000000000000, 2000), (2, 4, -1000000000000, 2000), (3, 1, -1000000000000, 2128), (3, 2, -1000000000000, 2000), (3, 4, -1000000000000, 2000), (4, 1, -1000000000000, 2128), (4, 2, -1000000000000, 2000), (4, 3, -1000000000000, 2000)], [((0, 5), (0, 0, 2000, [])), ((0, 7), (0, 0, 2000, [])), ((0, 4), (0, 0, 2000, [])), ((0, 3), (2, 0, 0, [109]))], [], 0, [], [])]
def t_Sy_advance_ct : ct_L := [(267, 76, e_Sy_isSmall_np), (345, 76, e_Sy_isSmall_np), (483, 80, e_Re_isDigit_np), (576, 80, e_Re_isDigit_np), (663, 86, e_jMath_min1_v59), (663, 86, e_jMath_min1_v60), (663, 86, e_jMath_min1_v61), (663, 86, e_jMath_min1_v62), (663, 86, e_jMath_min1_v63), (853, 94, e_jStr_indexOf1_v218), (1000000, 92, en_ro [] (2, 0, 0, [5005]))]
set_option maxRecDepth 100000 in
theorem c_Sy_advance {l : Launch} {D : va_G} {kA : Nat → ClassId} (h_Re_isDigit : ct_ok l D kA GG y_Re_isDigit z_Re_isDigit e_Re_isDigit) (h_Sy_isSmall : ct_ok l D kA GG y_Sy_isSmall z_Sy_isSmall e_Sy_isSmall) : ct_ok l D kA GG y_Sy_advance z_Sy_advance e_Sy_advance := chk_all_ok (FT := [(21, 11, 3), (25, 11, 4), (28, 11, 5), (34, 11, 7), (37, 11, 8)]) (PT := [(28, 11, 5, .int), (31, 11, 6, .int), (34, 11, 7, .int), (37, 11, 8, .int)]) (CT := t_Sy_advance_ct) (KT := [(0, 85, .int (1000000), (0, 1000000, 1000000, []))]) (NT := []) (AN := n_Sy_advance_an) (OT := []) 3 612 (List.forall_mem_nil _) (by decide +kernel) ⟨List.forall_mem_cons.mpr ⟨gf_Sy_21, List.forall_mem_cons.mpr ⟨gf_Sy_25, List.forall_mem_cons.mpr ⟨gf_Sy_28, List.forall_mem_cons.mpr ⟨gf_Sy_34, List.forall_mem_cons.mpr ⟨gf_Sy_37, List.forall_mem_nil _⟩⟩⟩⟩⟩, List.forall_mem_cons.mpr ⟨pf_Sy_28, List.forall_mem_cons.mpr ⟨pf_Sy_31, List.forall_mem_cons.mpr ⟨pf_Sy_34, List.forall_mem_cons.mpr ⟨pf_Sy_37, List.forall_mem_nil _⟩⟩⟩⟩, List.forall_mem_cons.mpr ⟨cl_nopa (cl_static (y := y_Sy_isSmall) h_Sy_isSmall wm_2161 wm_23 wm_2159 wm_2160 ⟨by decide, by decide, by decide +kernel⟩ (by decide)), List.forall_mem_cons.mpr ⟨cl_nopa (cl_static (y := y_Sy_isSmall) h_Sy_isSmall wm_2161 wm_23 wm_2159 wm_2160 ⟨by decide, by decide, by decide +kernel⟩ (by decide)), List.forall_mem_cons.mpr ⟨cl_nopa (cl_staticN (y := y_Re_isDigit) h_Re_isDigit wm_654 wm_2 wn_2162 wm_653 ⟨by decide, by decide, by decide +kernel⟩ (by decide)), List.forall_mem_cons.mpr ⟨cl_nopa (cl_staticN (y := y_Re_isDigit) h_Re_isDigit wm_654 wm_2 wn_2162 wm_653 ⟨by decide, by decide, by decide +kernel⟩ (by decide)), List.forall_mem_cons.mpr ⟨cl_static (y := y_jMath_min1) c_jMath_min1_v59 wm_658 wm_10 wm_2164 wm_657 ⟨by decide, by decide, by decide +kernel⟩ (by decide), List.forall_mem_cons.mpr ⟨cl_static (y := y_jMath_min1) c_jMath_min1_v60 wm_658 wm_10 wm_2164 wm_657 ⟨by decide, by decide, by decide +kernel⟩ (by decide), List.forall_mem_cons.mpr ⟨cl_static (y := y_jMath_min1) c_jMath_min1_v61 wm_658 wm_10 wm_2164 wm_657 ⟨by decide, by decide, by decide +kernel⟩ (by decide), List.forall_mem_cons.mpr ⟨cl_static (y := y_jMath_min1) c_jMath_min1_v62 wm_658 wm_10 wm_2164 wm_657 ⟨by decide, by decide, by decide +kernel⟩ (by decide), List.forall_mem_cons.mpr ⟨cl_static (y := y_jMath_min1) c_jMath_min1_v63 wm_658 wm_10 wm_2164 wm_657 ⟨by decide, by decide, by decide +kernel⟩ (by decide), List.forall_mem_cons.mpr ⟨cl_string (y := y_jStr_indexOf1) (i := 5) rfl rfl (by decide +kernel) rfl c_jStr_indexOf1_v218 wm_2169 wm_11 wm_2166 wm_2167 wm_2168 ⟨by decide, by decide, by decide +kernel⟩ (by decide), List.forall_mem_cons.mpr ⟨cl_ldc (own := "DrawingHouse$Styler") (idx := 92) (i := 5) (tx := ":=,;{}<>+-*/()") (by decide +kernel) (by decide +kernel) (by decide +kernel), List.forall_mem_nil _⟩⟩⟩⟩⟩⟩⟩⟩⟩⟩⟩, List.forall_mem_cons.mpr ⟨kx_Sy_0_85, List.forall_mem_nil _⟩, List.forall_mem_nil _, GG_pl⟩ (by decide +kernel)
def n_Sy_wordIn_at_s5004_an : List an_T := [(7, [(0, (2, 0, 0, [11])), (1, (2, 0, 0, [5004])), (2, (0, -2147483648, 2147483647, [])), (3, (0, 0, 39, [])), (4, (0, 0, 39, []))], [], (0, 0), [(0, 0, 99993), (1, 4, 39), (0, 0, 100000)], [], [((0, 3), (2, 0, 0, [109]))], [], 0, [], [])]
def t_Sy_wordIn_at_s5004_ct : ct_L := [(34, 100, e_jStr_length_v225), (85, 104, e_jStr_charAt_v139), (124, 108, e_Sy_isWordAt_at_s5004)]
set_option maxRecDepth 100000 in
theorem c_Sy_wordIn_at_s5004 {l : Launch} {D : va_G} {kA : Nat → ClassId} (h_Sy_isWordAt_at_s5004 : ct_ok l D kA GG y_Sy_isWordAt_at_s5004 z_Sy_isWordAt_at_s5004 e_Sy_isWordAt_at_s5004) : ct_ok l D kA GG y_Sy_wordIn_at_s5004 z_Sy_wordIn_at_s5004 e_Sy_wordIn_at_s5004 := chk_all_ok (FT := [(31, 11, 6)]) (PT := []) (CT := t_Sy_wordIn_at_s5004_ct) (KT := []) (NT := []) (AN := n_Sy_wordIn_at_s5004_an) (OT := []) 3 200 (List.forall_mem_nil _) (by decide +kernel) ⟨List.forall_mem_cons.mpr ⟨gf_Sy_31, List.forall_mem_nil _⟩, List.forall_mem_nil _, List.forall_mem_cons.mpr ⟨cl_string (y := y_jStr_length) (i := 4) rfl rfl (by decide +kernel) rfl c_jStr_length_v225 wm_674 wm_11 wm_2230 wm_672 wm_673 ⟨by decide, by decide, by decide +kernel⟩ (by decide), List.forall_mem_cons.mpr ⟨cl_string (y := y_jStr_charAt) (i := 4) rfl rfl (by decide +kernel) rfl c_jStr_charAt_v139 wm_684 wm_11 wm_2231 wm_682 wm_683 ⟨by decide, by decide, by decide +kernel⟩ (by decide), List.forall_mem_cons.mpr ⟨cl_virtual (y := y_Sy_isWordAt_at_s5004) (ci := 11) rfl rfl ⟨_, _, rfl⟩ (by decide +kernel) h_Sy_isWordAt_at_s5004 wm_2235 wm_23 wm_2232 wm_2234 wv_10_13 ⟨by decide, by decide, by decide +kernel⟩ (by decide), List.forall_mem_nil _⟩⟩⟩, List.forall_mem_nil _, List.forall_mem_nil _, GG_pl⟩ (by decide +kernel)
def n_Sy_wordIn_at_s5006_an : List an_T := [(7, [(0, (2, 0, 0, [11])), (1, (2, 0, 0, [5006])), (2, (0, -2147483648, 2147483647, [])), (3, (0, 0, 10, [])), (4, (0, 0, 10, []))], [], (0, 0), [(0, 0, 99993), (1, 4, 10), (0, 0, 100000)], [], [((0, 3), (2, 0, 0, [109]))], [], 0, [], [])]
def t_Sy_wordIn_at_s5006_ct : ct_L := [(34, 100, e_jStr_length_v226), (85, 104, e_jStr_charAt_v144), (124, 108, e_Sy_isWordAt_at_s5006)]
set_option maxRecDepth 100000 in
theorem c_Sy_wordIn_at_s5006 {l : Launch} {D : va_G} {kA : Nat → ClassId} (h_Sy_isWordAt_at_s5006 : ct_ok l D kA GG y_Sy_isWordAt_at_s5006 z_Sy_isWordAt_at_s5006 e_Sy_isWordAt_at_s5006) : ct_ok l D kA GG y_Sy_wordIn_at_s5006 z_Sy_wordIn_at_s5006 e_Sy_wordIn_at_s5006 := chk_all_ok (FT := [(31, 11, 6)]) (PT := []) (CT := t_Sy_wordIn_at_s5006_ct) (KT := []) (NT := []) (AN := n_Sy_wordIn_at_s5006_an) (OT := []) 3 200 (List.forall_mem_nil _) (by decide +kernel) ⟨List.forall_mem_cons.mpr ⟨gf_Sy_31, List.forall_mem_nil _⟩, List.forall_mem_nil _, List.forall_mem_cons.mpr ⟨cl_string (y := y_jStr_length) (i := 6) rfl rfl (by decide +kernel) rfl c_jStr_length_v226 wm_674 wm_11 wm_2230 wm_672 wm_673 ⟨by decide, by decide, by decide +kernel⟩ (by decide), List.forall_mem_cons.mpr ⟨cl_string (y := y_jStr_charAt) (i := 6) rfl rfl (by decide +kernel) rfl c_jStr_charAt_v144 wm_684 wm_11 wm_2231 wm_682 wm_683 ⟨by decide, by decide, by decide +kernel⟩ (by decide), List.forall_mem_cons.mpr ⟨cl_virtual (y := y_Sy_isWordAt_at_s5006) (ci := 11) rfl rfl ⟨_, _, rfl⟩ (by decide +kernel) h_Sy_isWordAt_at_s5006 wm_2235 wm_23 wm_2232 wm_2234 wv_10_13 ⟨by decide, by decide, by decide +kernel⟩ (by decide), List.forall_mem_nil _⟩⟩⟩, List.forall_mem_nil _, List.forall_mem_nil _, GG_pl⟩ (by decide +kernel)
def n_Sy_wordIn_at_s5007_an : List an_T := [(7, [(0, (2, 0, 0, [11])), (1, (2, 0, 0, [5007])), (2, (0, -2147483648, 2147483647, [])), (3, (0, 0, 44, [])), (4, (0, 0, 44, []))], [], (0, 0), [(0, 0, 99993), (1, 4, 44), (0, 0, 100000)], [], [((0, 3), (2, 0, 0, [109]))], [], 0, [], [])]
def t_Sy_wordIn_at_s5007_ct : ct_L := [(34, 100, e_jStr_length_v227), (85, 104, e_jStr_charAt_v148), (124, 108, e_Sy_isWordAt_at_s5007)]
set_option maxRecDepth 100000 in
theorem c_Sy_wordIn_at_s5007 {l : Launch} {D : va_G} {kA : Nat → ClassId} (h_Sy_isWordAt_at_s5007 : ct_ok l D kA GG y_Sy_isWordAt_at_s5007 z_Sy_isWordAt_at_s5007 e_Sy_isWordAt_at_s5007) : ct_ok l D kA GG y_Sy_wordIn_at_s5007 z_Sy_wordIn_at_s5007 e_Sy_wordIn_at_s5007 := chk_all_ok (FT := [(31, 11, 6)]) (PT := []) (CT := t_Sy_wordIn_at_s5007_ct) (KT := []) (NT := []) (AN := n_Sy_wordIn_at_s5007_an) (OT := []) 3 200 (List.forall_mem_nil _) (by decide +kernel) ⟨List.forall_mem_cons.mpr ⟨gf_Sy_31, List.forall_mem_nil _⟩, List.forall_mem_nil _, List.forall_mem_cons.mpr ⟨cl_string (y := y_jStr_length) (i := 7) rfl rfl (by decide +kernel) rfl c_jStr_length_v227 wm_674 wm_11 wm_2230 wm_672 wm_673 ⟨by decide, by decide, by decide +kernel⟩ (by decide), List.forall_mem_cons.mpr ⟨cl_string (y := y_jStr_charAt) (i := 7) rfl rfl (by decide +kernel) rfl c_jStr_charAt_v148 wm_684 wm_11 wm_2231 wm_682 wm_683 ⟨by decide, by decide, by decide +kernel⟩ (by decide), List.forall_mem_cons.mpr ⟨cl_virtual (y := y_Sy_isWordAt_at_s5007) (ci := 11) rfl rfl ⟨_, _, rfl⟩ (by decide +kernel) h_Sy_isWordAt_at_s5007 wm_2235 wm_23 wm_2232 wm_2234 wv_10_13 ⟨by decide, by decide, by decide +kernel⟩ (by decide), List.forall_mem_nil _⟩⟩⟩, List.forall_mem_nil _, List.forall_mem_nil _, GG_pl⟩ (by decide +kernel)
def n_Sy_wordIn_at_s5008_an : List an_T := [(7, [(0, (2, 0, 0, [11])), (1, (2, 0, 0, [5008])), (2, (0, -2147483648, 2147483647, [])), (3, (0, 0, 3, [])), (4, (0, 0, 3, []))], [], (0, 0), [(0, 0, 99993), (1, 4, 3), (0, 0, 100000)], [], [((0, 3), (2, 0, 0, [109]))], [], 0, [], [])]
def t_Sy_wordIn_at_s5008_ct : ct_L := [(34, 100, e_jStr_length_v228), (85, 104, e_jStr_charAt_v152), (124, 108, e_Sy_isWordAt_at_s5008)]
set_option maxRecDepth 100000 in
theorem c_Sy_wordIn_at_s5008 {l : Launch} {D : va_G} {kA : Nat → ClassId} (h_Sy_isWordAt_at_s5008 : ct_ok l D kA GG y_Sy_isWordAt_at_s5008 z_Sy_isWordAt_at_s5008 e_Sy_isWordAt_at_s5008) : ct_ok l D kA GG y_Sy_wordIn_at_s5008 z_Sy_wordIn_at_s5008 e_Sy_wordIn_at_s5008 := chk_all_ok (FT := [(31, 11, 6)]) (PT := []) (CT := t_Sy_wordIn_at_s5008_ct) (KT := []) (NT := []) (AN := n_Sy_wordIn_at_s5008_an) (OT := []) 3 200 (List.forall_mem_nil _) (by decide +kernel) ⟨List.forall_mem_cons.mpr ⟨gf_Sy_31, List.forall_mem_nil _⟩, List.forall_mem_nil _, List.forall_mem_cons.mpr ⟨cl_string (y := y_jStr_length) (i := 8) rfl rfl (by decide +kernel) rfl c_jStr_length_v228 wm_674 wm_11 wm_2230 wm_672 wm_673 ⟨by decide, by decide, by decide +kernel⟩ (by decide), List.forall_mem_cons.mpr ⟨cl_string (y := y_jStr_charAt) (i := 8) rfl rfl (by decide +kernel) rfl c_jStr_charAt_v152 wm_684 wm_11 wm_2231 wm_682 wm_683 ⟨by decide, by decide, by decide +kernel⟩ (by decide), List.forall_mem_cons.mpr ⟨cl_virtual (y := y_Sy_isWordAt_at_s5008) (ci := 11) rfl rfl ⟨_, _, rfl⟩ (by decide +kernel) h_Sy_isWordAt_at_s5008 wm_2235 wm_23 wm_2232 wm_2234 wv_10_13 ⟨by decide, by decide, by decide +kernel⟩ (by decide), List.forall_mem_nil _⟩⟩⟩, List.forall_mem_nil _, List.forall_mem_nil _, GG_pl⟩ (by decide +kernel)
def n_Sy_wordIn_at_s5009_an : List an_T := [(7, [(0, (2, 0, 0, [11])), (1, (2, 0, 0, [5009])), (2, (0, -2147483648, 2147483647, [])), (3, (0, 0, 4, [])), (4, (0, 0, 4, []))], [], (0, 0), [(0, 0, 99993), (1, 4, 4), (0, 0, 100000)], [], [((0, 3), (2, 0, 0, [109]))], [], 0, [], [])]
def t_Sy_wordIn_at_s5009_ct : ct_L := [(34, 100, e_jStr_length_v229), (85, 104, e_jStr_charAt_v156), (124, 108, e_Sy_isWordAt_at_s5009)]
set_option maxRecDepth 100000 in
theorem c_Sy_wordIn_at_s5009 {l : Launch} {D : va_G} {kA : Nat → ClassId} (h_Sy_isWordAt_at_s5009 : ct_ok l D kA GG y_Sy_isWordAt_at_s5009 z_Sy_isWordAt_at_s5009 e_Sy_isWordAt_at_s5009) : ct_ok l D kA GG y_Sy_wordIn_at_s5009 z_Sy_wordIn_at_s5009 e_Sy_wordIn_at_s5009 := chk_all_ok (FT := [(31, 11, 6)]) (PT := []) (CT := t_Sy_wordIn_at_s5009_ct) (KT := []) (NT := []) (AN := n_Sy_wordIn_at_s5009_an) (OT := []) 3 200 (List.forall_mem_nil _) (by decide +kernel) ⟨List.forall_mem_cons.mpr ⟨gf_Sy_31, List.forall_mem_nil _⟩, List.forall_mem_nil _, List.forall_mem_cons.mpr ⟨cl_string (y := y_jStr_length) (i := 9) rfl rfl (by decide +kernel) rfl c_jStr_length_v229 wm_674 wm_11 wm_2230 wm_672 wm_673 ⟨by decide, by decide, by decide +kernel⟩ (by decide), List.forall_mem_cons.mpr ⟨cl_string (y := y_jStr_charAt) (i := 9) rfl rfl (by decide +kernel) rfl c_jStr_charAt_v156 wm_684 wm_11 wm_2231 wm_682 wm_683 ⟨by decide, by decide, by decide +kernel⟩ (by decide), List.forall_mem_cons.mpr ⟨cl_virtual (y := y_Sy_isWordAt_at_s5009) (ci := 11) rfl rfl ⟨_, _, rfl⟩ (by decide +kernel) h_Sy_isWordAt_at_s5009 wm_2235 wm_23 wm_2232 wm_2234 wv_10_13 ⟨by decide, by decide, by decide +kernel⟩ (by decide), List.forall_mem_nil _⟩⟩⟩, List.forall_mem_nil _, List.forall_mem_nil _, GG_pl⟩ (by decide +kernel)
def n_Sy_wordIn_at_s5010_an : List an_T := [(7, [(0, (2, 0, 0, [11])), (1, (2, 0, 0, [5010])), (2, (0, -2147483648, 2147483647, [])), (3, (0, 0, 4, [])), (4, (0, 0, 4, []))], [], (0, 0), [(0, 0, 99993), (1, 4, 4), (0, 0, 100000)], [], [((0, 3), (2, 0, 0, [109]))], [], 0, [], [])]
def t_Sy_wordIn_at_s5010_ct : ct_L := [(34, 100, e_jStr_length_v230), (85, 104, e_jStr_charAt_v160), (124, 108, e_Sy_isWordAt_at_s5010)]
set_option maxRecDepth 100000 in
theorem c_Sy_wordIn_at_s5010 {l : Launch} {D : va_G} {kA : Nat → ClassId} (h_Sy_isWordAt_at_s5010 : ct_ok l D kA GG y_Sy_isWordAt_at_s5010 z_Sy_isWordAt_at_s5010 e_Sy_isWordAt_at_s5010) : ct_ok l D kA GG y_Sy_wordIn_at_s5010 z_Sy_wordIn_at_s5010 e_Sy_wordIn_at_s5010 := chk_all_ok (FT := [(31, 11, 6)]) (PT := []) (CT := t_Sy_wordIn_at_s5010_ct) (KT := []) (NT := []) (AN := n_Sy_wordIn_at_s5010_an) (OT := []) 3 200 (List.forall_mem_nil _) (by decide +kernel) ⟨List.forall_mem_cons.mpr ⟨gf_Sy_31, List.forall_mem_nil _⟩, List.forall_mem_nil _, List.forall_mem_cons.mpr ⟨cl_string (y := y_jStr_length) (i := 10) rfl rfl (by decide +kernel) rfl c_jStr_length_v230 wm_674 wm_11 wm_2230 wm_672 wm_673 ⟨by decide, by decide, by decide +kernel⟩ (by decide), List.forall_mem_cons.mpr ⟨cl_string (y := y_jStr_charAt) (i := 10) rfl rfl (by decide +kernel) rfl c_jStr_charAt_v160 wm_684 wm_11 wm_2231 wm_682 wm_683 ⟨by decide, by decide, by decide +kernel⟩ (by decide), List.forall_mem_cons.mpr ⟨cl_virtual (y := y_Sy_isWordAt_at_s5010) (ci := 11) rfl rfl ⟨_, _, rfl⟩ (by decide +kernel) h_Sy_isWordAt_at_s5010 wm_2235 wm_23 wm_2232 wm_2234 wv_10_13 ⟨by decide, by decide, by decide +kernel⟩ (by decide), List.forall_mem_nil _⟩⟩⟩, List.forall_mem_nil _, List.forall_mem_nil _, GG_pl⟩ (by decide +kernel)
def n_Sy_wordIn_at_s5011_an : List an_T := [(7, [(0, (2, 0, 0, [11])), (1, (2, 0, 0, [5011])), (2, (0, -2147483648, 2147483647, [])), (3, (0, 0, 3, [])), (4, (0, 0, 3, []))], [], (0, 0), [(0, 0, 99993), (1, 4, 3), (0, 0, 100000)], [], [((0, 3), (2, 0, 0, [109]))], [], 0, [], [])]
def t_Sy_wordIn_at_s5011_ct : ct_L := [(34, 100, e_jStr_length_v231), (85, 104, e_jStr_charAt_v162), (124, 108, e_Sy_isWordAt_at_s5011)]
set_option maxRecDepth 100000 in
theorem c_Sy_wordIn_at_s5011 {l : Launch} {D : va_G} {kA : Nat → ClassId} (h_Sy_isWordAt_at_s5011 : ct_ok l D kA GG y_Sy_isWordAt_at_s5011 z_Sy_isWordAt_at_s5011 e_Sy_isWordAt_at_s5011) : ct_ok l D kA GG y_Sy_wordIn_at_s5011 z_Sy_wordIn_at_s5011 e_Sy_wordIn_at_s5011 := chk_all_ok (FT := [(31, 11, 6)]) (PT := []) (CT := t_Sy_wordIn_at_s5011_ct) (KT := []) (NT := []) (AN := n_Sy_wordIn_at_s5011_an) (OT := []) 3 200 (List.forall_mem_nil _) (by decide +kernel) ⟨List.forall_mem_cons.mpr ⟨gf_Sy_31, List.forall_mem_nil _⟩, List.forall_mem_nil _, List.forall_mem_cons.mpr ⟨cl_string (y := y_jStr_length) (i := 11) rfl rfl (by decide +kernel) rfl c_jStr_length_v231 wm_674 wm_11 wm_2230 wm_672 wm_673 ⟨by decide, by decide, by decide +kernel⟩ (by decide), List.forall_mem_cons.mpr ⟨cl_string (y := y_jStr_charAt) (i := 11) rfl rfl (by decide +kernel) rfl c_jStr_charAt_v162 wm_684 wm_11 wm_2231 wm_682 wm_683 ⟨by decide, by decide, by decide +kernel⟩ (by decide), List.forall_mem_cons.mpr ⟨cl_virtual (y := y_Sy_isWordAt_at_s5011) (ci := 11) rfl rfl ⟨_, _, rfl⟩ (by decide +kernel) h_Sy_isWordAt_at_s5011 wm_2235 wm_23 wm_2232 wm_2234 wv_10_13 ⟨by decide, by decide, by decide +kernel⟩ (by decide), List.forall_mem_nil _⟩⟩⟩, List.forall_mem_nil _, List.forall_mem_nil _, GG_pl⟩ (by decide +kernel)
def n_Sy_wordIn_at_s5012_an : List an_T := [(7, [(0, (2, 0, 0, [11])), (1, (2, 0, 0, [5012])), (2, (0, -2147483648, 2147483647, [])), (3, (0, 0, 17, [])), (4, (0, 0, 17, []))], [], (0, 0), [(0, 0, 99993), (1, 4, 17), (0, 0, 100000)], [], [((0, 3), (2, 0, 0, [109]))], [], 0, [], [])]
def t_Sy_wordIn_at_s5012_ct : ct_L := [(34, 100, e_jStr_length_v232), (85, 104, e_jStr_charAt_v164), (124, 108, e_Sy_isWordAt_at_s5012)]
set_option maxRecDepth 100000 in
theorem c_Sy_wordIn_at_s5012 {l : Launch} {D : va_G} {kA : Nat → ClassId} (h_Sy_isWordAt_at_s5012 : ct_ok l D kA GG y_Sy_isWordAt_at_s5012 z_Sy_isWordAt_at_s5012 e_Sy_isWordAt_at_s5012) : ct_ok l D kA GG y_Sy_wordIn_at_s5012 z_Sy_wordIn_at_s5012 e_Sy_wordIn_at_s5012 := chk_all_ok (FT := [(31, 11, 6)]) (PT := []) (CT := t_Sy_wordIn_at_s5012_ct) (KT := []) (NT := []) (AN := n_Sy_wordIn_at_s5012_an) (OT := []) 3 200 (List.forall_mem_nil _) (by decide +kernel) ⟨List.forall_mem_cons.mpr ⟨gf_Sy_31, List.forall_mem_nil _⟩, List.forall_mem_nil _, List.forall_mem_cons.mpr ⟨cl_string (y := y_jStr_length) (i := 12) rfl rfl (by decide +kernel) rfl c_jStr_length_v232 wm_674 wm_11 wm_2230 wm_672 wm_673 ⟨by decide, by decide, by decide +kernel⟩ (by decide), List.forall_mem_cons.mpr ⟨cl_string (y := y_jStr_charAt) (i := 12) rfl rfl (by decide +kernel) rfl c_jStr_charAt_v164 wm_684 wm_11 wm_2231 wm_682 wm_683 ⟨by decide, by decide, by decide +kernel⟩ (by decide), List.forall_mem_cons.mpr ⟨cl_virtual (y := y_Sy_isWordAt_at_s5012) (ci := 11) rfl rfl ⟨_, _, rfl⟩ (by decide +kernel) h_Sy_isWordAt_at_s5012 wm_2235 wm_23 wm_2232 wm_2234 wv_10_13 ⟨by decide, by decide, by decide +kernel⟩ (by decide), List.forall_mem_nil _⟩⟩⟩, List.forall_mem_nil _, List.forall_mem_nil _, GG_pl⟩ (by decide +kernel)
def n_Mo_bounds_an : List an_T := [(38, [(0, (2, 0, 0, [150])), (1, (0, 0, 24, []))], [], (0, 0), [(0, 0, 99962), (1, 1, 24), (0, 0, 100000), (0, 0, 0), (0, 0, 0)], [], [], [], 0, [], []), (68, [(0, (2, 0, 0, [150])), (1, (0, 0, 48, []))], [], (0, 0), [(0, 0, 99932), (1, 1, 48), (0, 0, 100000), (0, 0, 0), (0, 0, 0)], [], [], [], 0, [], []), (78, [(0, (2, 0, 0, [150])), (1, (0, 0, 47, [])), (2, (0, 0, 26, []))], [], (0, 0), [(0, 0, 99932), (1, 1, 48), (0, 0, 99922), (1, 2, 26), (0, 0, 100000)], [], [], [], 0, [], [])]
def t_Mo_bounds_ct : ct_L := [(1, 401, e_Mo_edges), (1, 475, e_Mo_nodes), (1, 1023, e_Mo_px), (1, 1026, e_Mo_pointsOf), (1, 1029, e_Mo_py), (1, 1085, e_Mo_ex), (1, 1088, e_Mo_ey), (1, 1154, e_Mo_bound)]
set_option maxRecDepth 100000 in
theorem c_Mo_bounds {l : Launch} {D : va_G} {kA : Nat → ClassId} (h_Mo_bound : ct_ok l D kA GG y_Mo_bound z_Mo_bound e_Mo_bound) (h_Mo_edges : ct_ok l D kA GG y_Mo_edges z_Mo_edges e_Mo_edges) (h_Mo_ex : ct_ok l D kA GG y_Mo_ex z_Mo_ex e_Mo_ex) (h_Mo_ey : ct_ok l D kA GG y_Mo_ey z_Mo_ey e_Mo_ey) (h_Mo_nodes : ct_ok l D kA GG y_Mo_nodes z_Mo_nodes e_Mo_nodes) (h_Mo_pointsOf : ct_ok l D kA GG y_Mo_pointsOf z_Mo_pointsOf e_Mo_pointsOf) (h_Mo_px : ct_ok l D kA GG y_Mo_px z_Mo_px e_Mo_px) (h_Mo_py : ct_ok l D kA GG y_Mo_py z_Mo_py e_Mo_py) : ct_ok l D kA GG y_Mo_bounds z_Mo_bounds e_Mo_bounds := chk_all_ok (FT := []) (PT := [(1142, 13, 153, .int), (1145, 13, 154, .int), (1148, 13, 155, .int), (1151, 13, 156, .int)]) (CT := t_Mo_bounds_ct) (KT := []) (NT := []) (AN := n_Mo_bounds_an) (OT := []) 5 284 (List.forall_mem_nil _) (by decide +kernel) ⟨List.forall_mem_nil _, List.forall_mem_cons.mpr ⟨pf_Mo_1142, List.forall_mem_cons.mpr ⟨pf_Mo_1145, List.forall_mem_cons.mpr ⟨pf_Mo_1148, List.forall_mem_cons.mpr ⟨pf_Mo_1151, List.forall_mem_nil _⟩⟩⟩⟩, List.forall_mem_cons.mpr ⟨cl_virtual (y := y_Mo_edges) (ci := 13) rfl rfl ⟨_, _, rfl⟩ (by decide +kernel) h_Mo_edges wm_3037 wm_9 wm_3034 wm_3036 wv_13_6 ⟨by decide, by decide, by decide +kernel⟩ (by decide), List.forall_mem_cons.mpr ⟨cl_virtual (y := y_Mo_nodes) (ci := 13) rfl rfl ⟨_, _, rfl⟩ (by decide +kernel) h_Mo_nodes wm_3025 wm_9 wm_3022 wm_3024 wv_13_3 ⟨by decide, by decide, by decide +kernel⟩ (by decide), List.forall_mem_cons.mpr ⟨cl_virtual (y := y_Mo_px) (ci := 13) rfl rfl ⟨_, _, rfl⟩ (by decide +kernel) h_Mo_px wm_3675 wm_9 wm_3672 wm_3674 wv_21_14 ⟨by decide, by decide, by decide +kernel⟩ (by decide), List.forall_mem_cons.mpr ⟨cl_virtual (y := y_Mo_pointsOf) (ci := 13) rfl rfl ⟨_, _, rfl⟩ (by decide +kernel) h_Mo_pointsOf wm_3726 wm_9 wm_3723 wm_3725 wv_22_8 ⟨by decide, by decide, by decide +kernel⟩ (by decide), List.forall_mem_cons.mpr ⟨cl_virtual (y := y_Mo_py) (ci := 13) rfl rfl ⟨_, _, rfl⟩ (by decide +kernel) h_Mo_py wm_3679 wm_9 wm_3676 wm_3678 wv_21_15 ⟨by decide, by decide, by decide +kernel⟩ (by decide), List.forall_mem_cons.mpr ⟨cl_virtual (y := y_Mo_ex) (ci := 13) rfl rfl ⟨_, _, rfl⟩ (by decide +kernel) h_Mo_ex wm_3730 wm_9 wm_3727 wm_3729 wv_22_9 ⟨by decide, by decide, by decide +kernel⟩ (by decide), List.forall_mem_cons.mpr ⟨cl_virtual (y := y_Mo_ey) (ci := 13) rfl rfl ⟨_, _, rfl⟩ (by decide +kernel) h_Mo_ey wm_3734 wm_9 wm_3731 wm_3733 wv_22_10 ⟨by decide, by decide, by decide +kernel⟩ (by decide), List.forall_mem_cons.mpr ⟨cl_virtual (y := y_Mo_bound) (ci := 13) rfl rfl ⟨_, _, rfl⟩ (by decide +kernel) h_Mo_bound wm_3782 wm_9 wm_3779 wm_3781 wv_23_1 ⟨by decide, by decide, by decide +kernel⟩ (by decide), List.forall_mem_nil _⟩⟩⟩⟩⟩⟩⟩⟩, List.forall_mem_nil _, List.forall_mem_nil _, GG_pl⟩ (by decide +kernel)
def o_Mo_finds_0 : or_T := (168, 9, [(0, (2, 0, 0, [150])), (6, (0, 0, 48, [])), (7, (0, 0, 48, []))], [(9, [7, 0], [150]), (7, [6, 7], [3]), (20, [0], [30, 47, 1, 1, 150])], [(7, (0, 0, 47, []))], [], [], [], [(6, 7, 0, 4294967296)])
theorem oo_Mo_finds_0 {kA : Nat → ClassId} : or_ok kA GG o_Mo_finds_0 := by
  intro A ta ws vs hD hth hl hk hds hf
  have hl : vs.length = 9 := hl
  have hk : ∀ q ∈ ([(0, (2, 0, 0, [150])), (6, (0, 0, 48, [])), (7, (0, 0, 48, []))] : List (Nat × tv_T)), tv_ok ta q.2 (n_v vs q.1) := hk
  obtain ⟨t0, hk⟩ := List.forall_mem_cons.mp hk
  have t0 : tv_ok ta (2, 0, 0, [150]) (n_v vs 0) := t0
  have r0 : ta (v_ad (n_v vs 0)) = some 150 := tv_rg t0
  obtain ⟨t6, hk⟩ := List.forall_mem_cons.mp hk
  have t6 : tv_ok ta (0, 0, 48, []) (n_v vs 6) := t6
  have k6 : 0 ≤ v_iv (n_v vs 6) ∧ v_iv (n_v vs 6) ≤ 48 := tv_rng t6
  obtain ⟨t7, hk⟩ := List.forall_mem_cons.mp hk
  have t7 : tv_ok ta (0, 0, 48, []) (n_v vs 7) := t7
  have k7 : 0 ≤ v_iv (n_v vs 7) ∧ v_iv (n_v vs 7) ≤ 48 := tv_rng t7
  have hds : ∀ q ∈ ([(6, 7, 0, 4294967296)] : List of_T), n_iv vs q.2.1 + q.2.2.1 ≤ n_iv vs q.1 ∧ n_iv vs q.1 ≤ n_iv vs q.2.1 + q.2.2.2 := hds
  obtain ⟨d0, hds⟩ := List.forall_mem_cons.mp hds
  have d0 : v_iv (n_v vs 7) + 0 ≤ v_iv (n_v vs 6) ∧ v_iv (n_v vs 6) ≤ v_iv (n_v vs 7) + 4294967296 := d0
  have hf : fc_ok [(9, [7, 0], [150]), (7, [6, 7], [3]), (20, [0], [30, 47, 1, 1, 150])] ta ws vs := hf
  obtain ⟨f0, hf⟩ := fc_un (show (9 : Nat) < 100 from by decide) hf
  have f0 : n_v vs 7 = w_fd ws (v_ad (n_v vs 0)) 150 := f0
  obtain ⟨f1, hf⟩ := fc_un (show (7 : Nat) < 100 from by decide) hf
  have f1 : v_iv (n_v vs 7) ≤ v_iv (n_v vs 6) := f1
  obtain ⟨f2, hf⟩ := fc_un (show (20 : Nat) < 100 from by decide) hf
  have f2 : 1 * w_fi ws (n_v vs 0) 150 + 0 ≤ 47 := f2
  have g0 : v_iv (n_v vs 7) = w_fi ws (n_v vs 0) 150 := congrArg v_iv f0
  have kz_0_150 : 0 ≤ w_fi ws (n_v vs 0) 150 ∧ w_fi ws (n_v vs 0) 150 ≤ 48 := tv_rng (th_fd hD hth r0 (g := GG_150) rfl (k := 150) (t := (0, 0, 48, [])) rfl rfl)
  have rf7 : tv_ok ta (0, 0, 47, []) (n_v vs 7) := tv_in t7 (by omega) (by omega)
  refine ⟨List.forall_mem_cons.mpr ⟨rf7, (fun _ h => (by cases h))⟩, [], trivial, ?_, (fun _ h => (by cases h))⟩
  rw [List.append_nil]
  exact (fun _ h => (by cases h))
def n_Mo_finds_an : List an_T := [(2, [(0, (2, 0, 0, [150])), (1, (0, 0, 47, [])), (2, (0, 0, 25, []))], [], (0, 0), [(0, 0, 99998), (1, 2, 25), (0, 0, 100000), (0, 0, 0), (0, 0, 0)], [(1, 2, -1000000000000, 47)], [], [], 0, [], [(20, [0], [30, 47, 1, 1, 150])]), (60, [(0, (2, 0, 0, [150])), (1, (0, 0, 47, [])), (2, (0, 0, 24, [])), (3, (0, -2147483648, 2147483647, [])), (4, (0, -2147483648, 2147483647, [])), (5, (0, 0, 1, [])), (6, (0, 0, 24, []))], [], (0, 0), [(0, 0, 99998), (1, 2, 25), (0, 0, 99940), (1, 6, 24), (0, 0, 100000)], [(1, 2, -1000000000000, 47), (1, 5, -1000000000000, 47), (1, 6, -1000000000000, 47), (5, 1, -1000000000000, 1), (5, 2, -1000000000000, 1), (5, 6, -1000000000000, 1)], [], [], 0, [], [(20, [0], [30, 47, 1, 1, 150])]), (102, [(0, (2, 0, 0, [150])), (1, (0, 0, 47, [])), (2, (0, 0, 24, [])), (3, (0, -2147483648, 2147483647, [])), (4, (0, -2147483648, 2147483647, [])), (5, (0, 0, 1, [])), (6, (0, 0, 48, []))], [], (0, 0), [(0, 0, 99998), (1, 2, 25), (0, 0, 99898), (1, 6, 48), (0, 0, 100000)], [(1, 2, -1000000000000, 47), (1, 5, -1000000000000, 47), (1, 6, -1000000000000, 47), (5, 1, -1000000000000, 1), (5, 2, -1000000000000, 1), (5, 6, -1000000000000, 1)], [], [], 0, [], [(20, [0], [30, 47, 1, 1, 150])])]
def t_Mo_finds_ct : ct_L := [(1, 475, e_Mo_nodes), (1, 1026, e_Mo_pointsOf), (1, 1061, e_Mo_isInBox), (1, 1085, e_Mo_ex), (1, 1088, e_Mo_ey), (90, 931, e_jMath_floorDiv1_v39), (150, 931, e_jMath_floorDiv1_v39)]
set_option maxRecDepth 100000 in
theorem c_Mo_finds {l : Launch} {D : va_G} {kA : Nat → ClassId} (h_Mo_ex : ct_ok l D kA GG y_Mo_ex z_Mo_ex e_Mo_ex) (h_Mo_ey : ct_ok l D kA GG y_Mo_ey z_Mo_ey e_Mo_ey) (h_Mo_isInBox : ct_ok l D kA GG y_Mo_isInBox z_Mo_isInBox e_Mo_isInBox) (h_Mo_nodes : ct_ok l D kA GG y_Mo_nodes z_Mo_nodes e_Mo_nodes) (h_Mo_pointsOf : ct_ok l D kA GG y_Mo_pointsOf z_Mo_pointsOf e_Mo_pointsOf) : ct_ok l D kA GG y_Mo_finds z_Mo_finds e_Mo_finds := chk_all_ok (FT := [(336, 13, 151), (339, 13, 152), (1079, 13, 150)]) (PT := []) (CT := t_Mo_finds_ct) (KT := []) (NT := []) (AN := n_Mo_finds_an) (OT := [o_Mo_finds_0]) 5 688 (List.forall_mem_cons.mpr ⟨oo_Mo_finds_0, List.forall_mem_nil _⟩) (by decide +kernel) ⟨List.forall_mem_cons.mpr ⟨gf_Mo_336, List.forall_mem_cons.mpr ⟨gf_Mo_339, List.forall_mem_cons.mpr ⟨gf_Mo_1079, List.forall_mem_nil _⟩⟩⟩, List.forall_mem_nil _, List.forall_mem_cons.mpr ⟨cl_virtual (y := y_Mo_nodes) (ci := 13) rfl rfl ⟨_, _, rfl⟩ (by decide +kernel) h_Mo_nodes wm_3025 wm_9 wm_3022 wm_3024 wv_13_3 ⟨by decide, by decide, by decide +kernel⟩ (by decide), List.forall_mem_cons.mpr ⟨cl_virtual (y := y_Mo_pointsOf) (ci := 13) rfl rfl ⟨_, _, rfl⟩ (by decide +kernel) h_Mo_pointsOf wm_3726 wm_9 wm_3723 wm_3725 wv_22_8 ⟨by decide, by decide, by decide +kernel⟩ (by decide), List.forall_mem_cons.mpr ⟨cl_virtual (y := y_Mo_isInBox) (ci := 13) rfl rfl ⟨_, _, rfl⟩ (by decide +kernel) h_Mo_isInBox wm_3688 wm_9 wm_3685 wm_3687 wv_22_1 ⟨by decide, by decide, by decide +kernel⟩ (by decide), List.forall_mem_cons.mpr ⟨cl_virtual (y := y_Mo_ex) (ci := 13) rfl rfl ⟨_, _, rfl⟩ (by decide +kernel) h_Mo_ex wm_3730 wm_9 wm_3727 wm_3729 wv_22_9 ⟨by decide, by decide, by decide +kernel⟩ (by decide), List.forall_mem_cons.mpr ⟨cl_virtual (y := y_Mo_ey) (ci := 13) rfl rfl ⟨_, _, rfl⟩ (by decide +kernel) h_Mo_ey wm_3734 wm_9 wm_3731 wm_3733 wv_22_10 ⟨by decide, by decide, by decide +kernel⟩ (by decide), List.forall_mem_cons.mpr ⟨cl_static (y := y_jMath_floorDiv1) c_jMath_floorDiv1_v39 wm_1617 wm_10 wm_3556 wm_1616 ⟨by decide, by decide, by decide +kernel⟩ (by decide), List.forall_mem_cons.mpr ⟨cl_static (y := y_jMath_floorDiv1) c_jMath_floorDiv1_v39 wm_1617 wm_10 wm_3556 wm_1616 ⟨by decide, by decide, by decide +kernel⟩ (by decide), List.forall_mem_nil _⟩⟩⟩⟩⟩⟩⟩, List.forall_mem_nil _, List.forall_mem_nil _, GG_pl⟩ (by decide +kernel)
def n_Mo_forces_an : List an_T := [(21, [(0, (2, 0, 0, [150])), (1, (0, 0, 200, [])), (2, (0, 0, 24, [])), (3, (0, 0, 24, []))], [], (0, 0), [(0, 0, 99979), (1, 3, 24), (0, 0, 100000), (0, 0, 0), (0, 0, 0)], [], [], [], 0, [], []), (68, [(0, (2, 0, 0, [150])), (1, (0, 0, 200, [])), (2, (0, 0, 24, [])), (3, (0, 0, 200, []))], [], (0, 0), [(0, 0, 99932), (1, 3, 200), (0, 0, 100000), (0, 0, 0), (0, 0, 0)], [], [], [], 0, [], []), (76, [(0, (2, 0, 0, [150])), (1, (0, 1, 200, [])), (2, (0, 0, 24, [])), (3, (0, 0, 199, [])), (4, (0, 0, 24, []))], [], (0, 0), [(0, 0, 99932), (1, 3, 200), (0, 0, 99924), (1, 4, 24), (0, 0, 100000)], [], [], [], 0, [], []), (111, [(0, (2, 0, 0, [150])), (1, (0, 1, 200, [])), (2, (0, 0, 24, [])), (3, (0, 0, 199, [])), (4, (1, 0, 256, [])), (6, (0, 0, 24, []))], [], (0, 0), [(0, 0, 99932), (1, 3, 200), (0, 0, 99889), (1, 5, 24), (0, 0, 100000)], [], [], [], 0, [], []), (175, [(0, (2, 0, 0, [150])), (1, (0, 0, 200, [])), (2, (0, 0, 24, [])), (3, (0, 0, 24, []))], [], (0, 0), [(0, 0, 99825), (1, 3, 24), (0, 0, 100000), (0, 0, 0), (0, 0, 0)], [], [], [], 0, [], [])]
def t_Mo_forces_ct : ct_L := [(0, 387, e_Mo_in), (0, 999, e_Mo_bounded), (1, 475, e_Mo_nodes), (1, 996, e_Mo_pull), (585, 1005, e_jMath_floorDiv2_v67), (642, 1005, e_jMath_floorDiv2_v67)]
set_option maxRecDepth 100000 in
theorem c_Mo_forces {l : Launch} {D : va_G} {kA : Nat → ClassId} (h_Mo_bounded : ct_ok l D kA GG y_Mo_bounded z_Mo_bounded e_Mo_bounded) (h_Mo_in : ct_ok l D kA GG y_Mo_in z_Mo_in e_Mo_in) (h_Mo_nodes : ct_ok l D kA GG y_Mo_nodes z_Mo_nodes e_Mo_nodes) (h_Mo_pull : ct_ok l D kA GG y_Mo_pull z_Mo_pull e_Mo_pull) : ct_ok l D kA GG y_Mo_forces z_Mo_forces e_Mo_forces := chk_all_ok (FT := [(159, 13, 74), (162, 13, 75), (305, 13, 135), (308, 13, 136), (311, 13, 137), (314, 13, 138)]) (PT := []) (CT := t_Mo_forces_ct) (KT := [(2, 1003, .long (16), (1, 16, 16, []))]) (NT := []) (AN := n_Mo_forces_an) (OT := []) 5 776 (List.forall_mem_nil _) (by decide +kernel) ⟨List.forall_mem_cons.mpr ⟨gf_Mo_159, List.forall_mem_cons.mpr ⟨gf_Mo_162, List.forall_mem_cons.mpr ⟨gf_Mo_305, List.forall_mem_cons.mpr ⟨gf_Mo_308, List.forall_mem_cons.mpr ⟨gf_Mo_311, List.forall_mem_cons.mpr ⟨gf_Mo_314, List.forall_mem_nil _⟩⟩⟩⟩⟩⟩, List.forall_mem_nil _, List.forall_mem_cons.mpr ⟨cl_static (y := y_Mo_in) h_Mo_in wm_2971 wm_9 wm_2969 wm_2970 ⟨by decide, by decide, by decide +kernel⟩ (by decide), List.forall_mem_cons.mpr ⟨cl_static (y := y_Mo_bounded) h_Mo_bounded wm_3634 wm_9 wm_3632 wm_3633 ⟨by decide, by decide, by decide +kernel⟩ (by decide), List.forall_mem_cons.mpr ⟨cl_virtual (y := y_Mo_nodes) (ci := 13) rfl rfl ⟨_, _, rfl⟩ (by decide +kernel) h_Mo_nodes wm_3025 wm_9 wm_3022 wm_3024 wv_13_3 ⟨by decide, by decide, by decide +kernel⟩ (by decide), List.forall_mem_cons.mpr ⟨cl_virtual (y := y_Mo_pull) (ci := 13) rfl rfl ⟨_, _, rfl⟩ (by decide +kernel) h_Mo_pull wm_3624 wm_9 wm_3621 wm_3623 wv_21_9 ⟨by decide, by decide, by decide +kernel⟩ (by decide), List.forall_mem_cons.mpr ⟨cl_static (y := y_jMath_floorDiv2) c_jMath_floorDiv2_v67 wm_1800 wm_10 wm_3636 wm_1799 ⟨by decide, by decide, by decide +kernel⟩ (by decide), List.forall_mem_cons.mpr ⟨cl_static (y := y_jMath_floorDiv2) c_jMath_floorDiv2_v67 wm_1800 wm_10 wm_3636 wm_1799 ⟨by decide, by decide, by decide +kernel⟩ (by decide), List.forall_mem_nil _⟩⟩⟩⟩⟩⟩, List.forall_mem_cons.mpr ⟨⟨kt_mk2 wm_3635, fun _ => Or.inr (Or.inl ⟨rfl, _, rfl, by decide, by decide⟩)⟩, List.forall_mem_nil _⟩, List.forall_mem_nil _, GG_pl⟩ (by decide +kernel)
def n_Mo_isWord_at_s5000_an : List an_T := [(32, [(0, (2, 0, 0, [150])), (1, (2, 0, 0, [5000])), (2, (0, 0, 1, [])), (3, (0, 0, 4, []))], [], (0, 0), [(0, 0, 99968), (1, 3, 4), (0, 0, 100000)], [], [], [], 0, [], [])]
def t_Mo_isWord_at_s5000_ct : ct_L := [(1, 425, e_Mo_byteAt), (58, 448, e_jStr_length_v168), (106, 448, e_jStr_length_v168), (172, 453, e_jStr_charAt_v170)]
set_option maxRecDepth 100000 in
theorem c_Mo_isWord_at_s5000 {l : Launch} {D : va_G} {kA : Nat → ClassId} (h_Mo_byteAt : ct_ok l D kA GG y_Mo_byteAt z_Mo_byteAt e_Mo_byteAt) : ct_ok l D kA GG y_Mo_isWord_at_s5000 z_Mo_isWord_at_s5000 e_Mo_isWord_at_s5000 := chk_all_ok (FT := [(422, 13, 11), (431, 13, 15), (434, 13, 12)]) (PT := []) (CT := t_Mo_isWord_at_s5000_ct) (KT := []) (NT := []) (AN := n_Mo_isWord_at_s5000_an) (OT := []) 3 248 (List.forall_mem_nil _) (by decide +kernel) ⟨List.forall_mem_cons.mpr ⟨gf_Mo_422, List.forall_mem_cons.mpr ⟨gf_Mo_431, List.forall_mem_cons.mpr ⟨gf_Mo_434, List.forall_mem_nil _⟩⟩⟩, List.forall_mem_nil _, List.forall_mem_cons.mpr ⟨cl_virtual (y := y_Mo_byteAt) (ci := 13) rfl rfl ⟨_, _, rfl⟩ (by decide +kernel) h_Mo_byteAt wm_2986 wm_9 wm_2983 wm_2985 wv_12_12 ⟨by decide, by decide, by decide +kernel⟩ (by decide), List.forall_mem_cons.mpr ⟨cl_string (y := y_jStr_length) (i := 0) rfl rfl (by decide +kernel) rfl c_jStr_length_v168 wm_674 wm_11 wm_3003 wm_672 wm_673 ⟨by decide, by decide, by decide +kernel⟩ (by decide), List.forall_mem_cons.mpr ⟨cl_string (y := y_jStr_length) (i := 0) rfl rfl (by decide +kernel) rfl c_jStr_length_v168 wm_674 wm_11 wm_3003 wm_672 wm_673 ⟨by decide, by decide, by decide +kernel⟩ (by decide), List.forall_mem_cons.mpr ⟨cl_string (y := y_jStr_charAt) (i := 0) rfl rfl (by decide +kernel) rfl c_jStr_charAt_v170 wm_684 wm_11 wm_3004 wm_682 wm_683 ⟨by decide, by decide, by decide +kernel⟩ (by decide), List.forall_mem_nil _⟩⟩⟩⟩, List.forall_mem_nil _, List.forall_mem_nil _, GG_pl⟩ (by decide +kernel)
def n_Mo_isWord_at_s5001_an : List an_T := [(32, [(0, (2, 0, 0, [150])), (1, (2, 0, 0, [5001])), (2, (0, 0, 1, [])), (3, (0, 0, 5, []))], [], (0, 0), [(0, 0, 99968), (1, 3, 5), (0, 0, 100000)], [], [], [], 0, [], [])]
def t_Mo_isWord_at_s5001_ct : ct_L := [(1, 425, e_Mo_byteAt), (58, 448, e_jStr_length_v172), (106, 448, e_jStr_length_v172), (172, 453, e_jStr_charAt_v173)]
set_option maxRecDepth 100000 in
theorem c_Mo_isWord_at_s5001 {l : Launch} {D : va_G} {kA : Nat → ClassId} (h_Mo_byteAt : ct_ok l D kA GG y_Mo_byteAt z_Mo_byteAt e_Mo_byteAt) : ct_ok l D kA GG y_Mo_isWord_at_s5001 z_Mo_isWord_at_s5001 e_Mo_isWord_at_s5001 := chk_all_ok (FT := [(422, 13, 11), (431, 13, 15), (434, 13, 12)]) (PT := []) (CT := t_Mo_isWord_at_s5001_ct) (KT := []) (NT := []) (AN := n_Mo_isWord_at_s5001_an) (OT := []) 3 248 (List.forall_mem_nil _) (by decide +kernel) ⟨List.forall_mem_cons.mpr ⟨gf_Mo_422, List.forall_mem_cons.mpr ⟨gf_Mo_431, List.forall_mem_cons.mpr ⟨gf_Mo_434, List.forall_mem_nil _⟩⟩⟩, List.forall_mem_nil _, List.forall_mem_cons.mpr ⟨cl_virtual (y := y_Mo_byteAt) (ci := 13) rfl rfl ⟨_, _, rfl⟩ (by decide +kernel) h_Mo_byteAt wm_2986 wm_9 wm_2983 wm_2985 wv_12_12 ⟨by decide, by decide, by decide +kernel⟩ (by decide), List.forall_mem_cons.mpr ⟨cl_string (y := y_jStr_length) (i := 1) rfl rfl (by decide +kernel) rfl c_jStr_length_v172 wm_674 wm_11 wm_3003 wm_672 wm_673 ⟨by decide, by decide, by decide +kernel⟩ (by decide), List.forall_mem_cons.mpr ⟨cl_string (y := y_jStr_length) (i := 1) rfl rfl (by decide +kernel) rfl c_jStr_length_v172 wm_674 wm_11 wm_3003 wm_672 wm_673 ⟨by decide, by decide, by decide +kernel⟩ (by decide), List.forall_mem_cons.mpr ⟨cl_string (y := y_jStr_charAt) (i := 1) rfl rfl (by decide +kernel) rfl c_jStr_charAt_v173 wm_684 wm_11 wm_3004 wm_682 wm_683 ⟨by decide, by decide, by decide +kernel⟩ (by decide), List.forall_mem_nil _⟩⟩⟩⟩, List.forall_mem_nil _, List.forall_mem_nil _, GG_pl⟩ (by decide +kernel)
def n_Mo_isWord_at_s5002_an : List an_T := [(32, [(0, (2, 0, 0, [150])), (1, (2, 0, 0, [5002])), (2, (0, 0, 1, [])), (3, (0, 0, 4, []))], [], (0, 0), [(0, 0, 99968), (1, 3, 4), (0, 0, 100000)], [], [], [], 0, [], [])]
def t_Mo_isWord_at_s5002_ct : ct_L := [(1, 425, e_Mo_byteAt), (58, 448, e_jStr_length_v177), (106, 448, e_jStr_length_v177), (172, 453, e_jStr_charAt_v178)]
set_option maxRecDepth 100000 in
theorem c_Mo_isWord_at_s5002 {l : Launch} {D : va_G} {kA : Nat → ClassId} (h_Mo_byteAt : ct_ok l D kA GG y_Mo_byteAt z_Mo_byteAt e_Mo_byteAt) : ct_ok l D kA GG y_Mo_isWord_at_s5002 z_Mo_isWord_at_s5002 e_Mo_isWord_at_s5002 := chk_all_ok (FT := [(422, 13, 11), (431, 13, 15), (434, 13, 12)]) (PT := []) (CT := t_Mo_isWord_at_s5002_ct) (KT := []) (NT := []) (AN := n_Mo_isWord_at_s5002_an) (OT := []) 3 248 (List.forall_mem_nil _) (by decide +kernel) ⟨List.forall_mem_cons.mpr ⟨gf_Mo_422, List.forall_mem_cons.mpr ⟨gf_Mo_431, List.forall_mem_cons.mpr ⟨gf_Mo_434, List.forall_mem_nil _⟩⟩⟩, List.forall_mem_nil _, List.forall_mem_cons.mpr ⟨cl_virtual (y := y_Mo_byteAt) (ci := 13) rfl rfl ⟨_, _, rfl⟩ (by decide +kernel) h_Mo_byteAt wm_2986 wm_9 wm_2983 wm_2985 wv_12_12 ⟨by decide, by decide, by decide +kernel⟩ (by decide), List.forall_mem_cons.mpr ⟨cl_string (y := y_jStr_length) (i := 2) rfl rfl (by decide +kernel) rfl c_jStr_length_v177 wm_674 wm_11 wm_3003 wm_672 wm_673 ⟨by decide, by decide, by decide +kernel⟩ (by decide), List.forall_mem_cons.mpr ⟨cl_string (y := y_jStr_length) (i := 2) rfl rfl (by decide +kernel) rfl c_jStr_length_v177 wm_674 wm_11 wm_3003 wm_672 wm_673 ⟨by decide, by decide, by decide +kernel⟩ (by decide), List.forall_mem_cons.mpr ⟨cl_string (y := y_jStr_charAt) (i := 2) rfl rfl (by decide +kernel) rfl c_jStr_charAt_v178 wm_684 wm_11 wm_3004 wm_682 wm_683 ⟨by decide, by decide, by decide +kernel⟩ (by decide), List.forall_mem_nil _⟩⟩⟩⟩, List.forall_mem_nil _, List.forall_mem_nil _, GG_pl⟩ (by decide +kernel)
def n_Mo_isWord_at_s5003_an : List an_T := [(32, [(0, (2, 0, 0, [150])), (1, (2, 0, 0, [5003])), (2, (0, 0, 1, [])), (3, (0, 0, 6, []))], [], (0, 0), [(0, 0, 99968), (1, 3, 6), (0, 0, 100000)], [], [], [], 0, [], [])]
def t_Mo_isWord_at_s5003_ct : ct_L := [(1, 425, e_Mo_byteAt), (58, 448, e_jStr_length_v180), (106, 448, e_jStr_length_v180), (172, 453, e_jStr_charAt_v181)]
set_option maxRecDepth 100000 in
theorem c_Mo_isWord_at_s5003 {l : Launch} {D : va_G} {kA : Nat → ClassId} (h_Mo_byteAt : ct_ok l D kA GG y_Mo_byteAt z_Mo_byteAt e_Mo_byteAt) : ct_ok l D kA GG y_Mo_isWord_at_s5003 z_Mo_isWord_at_s5003 e_Mo_isWord_at_s5003 := chk_all_ok (FT := [(422, 13, 11), (431, 13, 15), (434, 13, 12)]) (PT := []) (CT := t_Mo_isWord_at_s5003_ct) (KT := []) (NT := []) (AN := n_Mo_isWord_at_s5003_an) (OT := []) 3 248 (List.forall_mem_nil _) (by decide +kernel) ⟨List.forall_mem_cons.mpr ⟨gf_Mo_422, List.forall_mem_cons.mpr ⟨gf_Mo_431, List.forall_mem_cons.mpr ⟨gf_Mo_434, List.forall_mem_nil _⟩⟩⟩, List.forall_mem_nil _, List.forall_mem_cons.mpr ⟨cl_virtual (y := y_Mo_byteAt) (ci := 13) rfl rfl ⟨_, _, rfl⟩ (by decide +kernel) h_Mo_byteAt wm_2986 wm_9 wm_2983 wm_2985 wv_12_12 ⟨by decide, by decide, by decide +kernel⟩ (by decide), List.forall_mem_cons.mpr ⟨cl_string (y := y_jStr_length) (i := 3) rfl rfl (by decide +kernel) rfl c_jStr_length_v180 wm_674 wm_11 wm_3003 wm_672 wm_673 ⟨by decide, by decide, by decide +kernel⟩ (by decide), List.forall_mem_cons.mpr ⟨cl_string (y := y_jStr_length) (i := 3) rfl rfl (by decide +kernel) rfl c_jStr_length_v180 wm_674 wm_11 wm_3003 wm_672 wm_673 ⟨by decide, by decide, by decide +kernel⟩ (by decide), List.forall_mem_cons.mpr ⟨cl_string (y := y_jStr_charAt) (i := 3) rfl rfl (by decide +kernel) rfl c_jStr_charAt_v181 wm_684 wm_11 wm_3004 wm_682 wm_683 ⟨by decide, by decide, by decide +kernel⟩ (by decide), List.forall_mem_nil _⟩⟩⟩⟩, List.forall_mem_nil _, List.forall_mem_nil _, GG_pl⟩ (by decide +kernel)
def n_Mo_write_at_s5013_an : List an_T := [(2, [(0, (2, 0, 0, [150])), (1, (2, 0, 0, [5013])), (2, (0, 0, 5, []))], [], (0, 0), [(0, 0, 99998), (1, 2, 5), (0, 0, 100000)], [], [((0, 170), (0, -2147483648, 2147483647, []))], [], 0, [], [])]
def t_Mo_write_at_s5013_ct : ct_L := [(16, 448, e_jStr_length_v185), (43, 453, e_jStr_charAt_v186), (52, 1280, e_Mo_write1)]
set_option maxRecDepth 100000 in
theorem c_Mo_write_at_s5013 {l : Launch} {D : va_G} {kA : Nat → ClassId} (h_Mo_write1 : ct_ok l D kA GG y_Mo_write1 z_Mo_write1 e_Mo_write1) : ct_ok l D kA GG y_Mo_write_at_s5013 z_Mo_write_at_s5013 e_Mo_write_at_s5013 := chk_all_ok (FT := []) (PT := []) (CT := t_Mo_write_at_s5013_ct) (KT := []) (NT := []) (AN := n_Mo_write_at_s5013_an) (OT := []) 3 200 (List.forall_mem_nil _) (by decide +kernel) ⟨List.forall_mem_nil _, List.forall_mem_nil _, List.forall_mem_cons.mpr ⟨cl_string (y := y_jStr_length) (i := 13) rfl rfl (by decide +kernel) rfl c_jStr_length_v185 wm_674 wm_11 wm_3003 wm_672 wm_673 ⟨by decide, by decide, by decide +kernel⟩ (by decide), List.forall_mem_cons.mpr ⟨cl_string (y := y_jStr_charAt) (i := 13) rfl rfl (by decide +kernel) rfl c_jStr_charAt_v186 wm_684 wm_11 wm_3004 wm_682 wm_683 ⟨by decide, by decide, by decide +kernel⟩ (by decide), List.forall_mem_cons.mpr ⟨cl_virtual (y := y_Mo_write1) (ci := 13) rfl rfl ⟨_, _, rfl⟩ (by decide +kernel) h_Mo_write1 wm_3914 wm_9 wm_3911 wm_3913 wv_24_8 ⟨by decide, by decide, by decide +kernel⟩ (by decide), List.forall_mem_nil _⟩⟩⟩, List.forall_mem_nil _, List.forall_mem_nil _, GG_pl⟩ (by decide +kernel)
def n_Mo_write_at_s5014_an : List an_T := [(2, [(0, (2, 0, 0, [150])), (1, (2, 0, 0, [5014])), (2, (0, 0, 7, []))], [], (0, 0), [(0, 0, 99998), (1, 2, 7), (0, 0, 100000)], [], [((0, 170), (0, -2147483648, 2147483647, []))], [], 0, [], [])]
def t_Mo_write_at_s5014_ct : ct_L := [(16, 448, e_jStr_length_v188), (43, 453, e_jStr_charAt_v189), (52, 1280, e_Mo_write1)]
set_option maxRecDepth 100000 in
theorem c_Mo_write_at_s5014 {l : Launch} {D : va_G} {kA : Nat → ClassId} (h_Mo_write1 : ct_ok l D kA GG y_Mo_write1 z_Mo_write1 e_Mo_write1) : ct_ok l D kA GG y_Mo_write_at_s5014 z_Mo_write_at_s5014 e_Mo_write_at_s5014 := chk_all_ok (FT := []) (PT := []) (CT := t_Mo_write_at_s5014_ct) (KT := []) (NT := []) (AN := n_Mo_write_at_s5014_an) (OT := []) 3 200 (List.forall_mem_nil _) (by decide +kernel) ⟨List.forall_mem_nil _, List.forall_mem_nil _, List.forall_mem_cons.mpr ⟨cl_string (y := y_jStr_length) (i := 14) rfl rfl (by decide +kernel) rfl c_jStr_length_v188 wm_674 wm_11 wm_3003 wm_672 wm_673 ⟨by decide, by decide, by decide +kernel⟩ (by decide), List.forall_mem_cons.mpr ⟨cl_string (y := y_jStr_charAt) (i := 14) rfl rfl (by decide +kernel) rfl c_jStr_charAt_v189 wm_684 wm_11 wm_3004 wm_682 wm_683 ⟨by decide, by decide, by decide +kernel⟩ (by decide), List.forall_mem_cons.mpr ⟨cl_virtual (y := y_Mo_write1) (ci := 13) rfl rfl ⟨_, _, rfl⟩ (by decide +kernel) h_Mo_write1 wm_3914 wm_9 wm_3911 wm_3913 wv_24_8 ⟨by decide, by decide, by decide +kernel⟩ (by decide), List.forall_mem_nil _⟩⟩⟩, List.forall_mem_nil _, List.forall_mem_nil _, GG_pl⟩ (by decide +kernel)
def n_Mo_write_at_s5015_an : List an_T := [(2, [(0, (2, 0, 0, [150])), (1, (2, 0, 0, [5015])), (2, (0, 0, 2, []))], [], (0, 0), [(0, 0, 99998), (1, 2, 2), (0, 0, 100000)], [], [((0, 170), (0, -2147483648, 2147483647, []))], [], 0, [], [])]
def t_Mo_write_at_s5015_ct : ct_L := [(16, 448, e_jStr_length_v193), (43, 453, e_jStr_charAt_v194), (52, 1280, e_Mo_write1)]
set_option maxRecDepth 100000 in
theorem c_Mo_write_at_s5015 {l : Launch} {D : va_G} {kA : Nat → ClassId} (h_Mo_write1 : ct_ok l D kA GG y_Mo_write1 z_Mo_write1 e_Mo_write1) : ct_ok l D kA GG y_Mo_write_at_s5015 z_Mo_write_at_s5015 e_Mo_write_at_s5015 := chk_all_ok (FT := []) (PT := []) (CT := t_Mo_write_at_s5015_ct) (KT := []) (NT := []) (AN := n_Mo_write_at_s5015_an) (OT := []) 3 200 (List.forall_mem_nil _) (by decide +kernel) ⟨List.forall_mem_nil _, List.forall_mem_nil _, List.forall_mem_cons.mpr ⟨cl_string (y := y_jStr_length) (i := 15) rfl rfl (by decide +kernel) rfl c_jStr_length_v193 wm_674 wm_11 wm_3003 wm_672 wm_673 ⟨by decide, by decide, by decide +kernel⟩ (by decide), List.forall_mem_cons.mpr ⟨cl_string (y := y_jStr_charAt) (i := 15) rfl rfl (by decide +kernel) rfl c_jStr_charAt_v194 wm_684 wm_11 wm_3004 wm_682 wm_683 ⟨by decide, by decide, by decide +kernel⟩ (by decide), List.forall_mem_cons.mpr ⟨cl_virtual (y := y_Mo_write1) (ci := 13) rfl rfl ⟨_, _, rfl⟩ (by decide +kernel) h_Mo_write1 wm_3914 wm_9 wm_3911 wm_3913 wv_24_8 ⟨by decide, by decide, by decide +kernel⟩ (by decide), List.forall_mem_nil _⟩⟩⟩, List.forall_mem_nil _, List.forall_mem_nil _, GG_pl⟩ (by decide +kernel)
def n_Mo_write_at_s5016_an : List an_T := [(2, [(0, (2, 0, 0, [150])), (1, (2, 0, 0, [5016])), (2, (0, 0, 6, []))], [], (0, 0), [(0, 0, 99998), (1, 2, 6), (0, 0, 100000)], [], [((0, 170), (0, -2147483648, 2147483647, []))], [], 0, [], [])]
def t_Mo_write_at_s5016_ct : ct_L := [(16, 448, e_jStr_length_v198), (43, 453, e_jStr_charAt_v199), (52, 1280, e_Mo_write1)]
set_option maxRecDepth 100000 in
theorem c_Mo_write_at_s5016 {l : Launch} {D : va_G} {kA : Nat → ClassId} (h_Mo_write1 : ct_ok l D kA GG y_Mo_write1 z_Mo_write1 e_Mo_write1) : ct_ok l D kA GG y_Mo_write_at_s5016 z_Mo_write_at_s5016 e_Mo_write_at_s5016 := chk_all_ok (FT := []) (PT := []) (CT := t_Mo_write_at_s5016_ct) (KT := []) (NT := []) (AN := n_Mo_write_at_s5016_an) (OT := []) 3 200 (List.forall_mem_nil _) (by decide +kernel) ⟨List.forall_mem_nil _, List.forall_mem_nil _, List.forall_mem_cons.mpr ⟨cl_string (y := y_jStr_length) (i := 16) rfl rfl (by decide +kernel) rfl c_jStr_length_v198 wm_674 wm_11 wm_3003 wm_672 wm_673 ⟨by decide, by decide, by decide +kernel⟩ (by decide), List.forall_mem_cons.mpr ⟨cl_string (y := y_jStr_charAt) (i := 16) rfl rfl (by decide +kernel) rfl c_jStr_charAt_v199 wm_684 wm_11 wm_3004 wm_682 wm_683 ⟨by decide, by decide, by decide +kernel⟩ (by decide), List.forall_mem_cons.mpr ⟨cl_virtual (y := y_Mo_write1) (ci := 13) rfl rfl ⟨_, _, rfl⟩ (by decide +kernel) h_Mo_write1 wm_3914 wm_9 wm_3911 wm_3913 wv_24_8 ⟨by decide, by decide, by decide +kernel⟩ (by decide), List.forall_mem_nil _⟩⟩⟩, List.forall_mem_nil _, List.forall_mem_nil _, GG_pl⟩ (by decide +kernel)
def n_Mo_write_at_s5017_an : List an_T := [(2, [(0, (2, 0, 0, [150])), (1, (2, 0, 0, [5017])), (2, (0, 0, 3, []))], [], (0, 0), [(0, 0, 99998), (1, 2, 3), (0, 0, 100000)], [], [((0, 170), (0, -2147483648, 2147483647, []))], [], 0, [], [])]
def t_Mo_write_at_s5017_ct : ct_L := [(16, 448, e_jStr_length_v201), (43, 453, e_jStr_charAt_v202), (52, 1280, e_Mo_write1)]
set_option maxRecDepth 100000 in
theorem c_Mo_write_at_s5017 {l : Launch} {D : va_G} {kA : Nat → ClassId} (h_Mo_write1 : ct_ok l D kA GG y_Mo_write1 z_Mo_write1 e_Mo_write1) : ct_ok l D kA GG y_Mo_write_at_s5017 z_Mo_write_at_s5017 e_Mo_write_at_s5017 := chk_all_ok (FT := []) (PT := []) (CT := t_Mo_write_at_s5017_ct) (KT := []) (NT := []) (AN := n_Mo_write_at_s5017_an) (OT := []) 3 200 (List.forall_mem_nil _) (by decide +kernel) ⟨List.forall_mem_nil _, List.forall_mem_nil _, List.forall_mem_cons.mpr ⟨cl_string (y := y_jStr_length) (i := 17) rfl rfl (by decide +kernel) rfl c_jStr_length_v201 wm_674 wm_11 wm_3003 wm_672 wm_673 ⟨by decide, by decide, by decide +kernel⟩ (by decide), List.forall_mem_cons.mpr ⟨cl_string (y := y_jStr_charAt) (i := 17) rfl rfl (by decide +kernel) rfl c_jStr_charAt_v202 wm_684 wm_11 wm_3004 wm_682 wm_683 ⟨by decide, by decide, by decide +kernel⟩ (by decide), List.forall_mem_cons.mpr ⟨cl_virtual (y := y_Mo_write1) (ci := 13) rfl rfl ⟨_, _, rfl⟩ (by decide +kernel) h_Mo_write1 wm_3914 wm_9 wm_3911 wm_3913 wv_24_8 ⟨by decide, by decide, by decide +kernel⟩ (by decide), List.forall_mem_nil _⟩⟩⟩, List.forall_mem_nil _, List.forall_mem_nil _, GG_pl⟩ (by decide +kernel)
def n_Mo_write_at_s5018_an : List an_T := [(2, [(0, (2, 0, 0, [150])), (1, (2, 0, 0, [5018])), (2, (0, 0, 2, []))], [], (0, 0), [(0, 0, 99998), (1, 2, 2), (0, 0, 100000)], [], [((0, 170), (0, -2147483648, 2147483647, []))], [], 0, [], [])]
def t_Mo_write_at_s5018_ct : ct_L := [(16, 448, e_jStr_length_v204), (43, 453, e_jStr_charAt_v205), (52, 1280, e_Mo_write1)]
set_option maxRecDepth 100000 in
theorem c_Mo_write_at_s5018 {l : Launch} {D : va_G} {kA : Nat → ClassId} (h_Mo_write1 : ct_ok l D kA GG y_Mo_write1 z_Mo_write1 e_Mo_write1) : ct_ok l D kA GG y_Mo_write_at_s5018 z_Mo_write_at_s5018 e_Mo_write_at_s5018 := chk_all_ok (FT := []) (PT := []) (CT := t_Mo_write_at_s5018_ct) (KT := []) (NT := []) (AN := n_Mo_write_at_s5018_an) (OT := []) 3 200 (List.forall_mem_nil _) (by decide +kernel) ⟨List.forall_mem_nil _, List.forall_mem_nil _, List.forall_mem_cons.mpr ⟨cl_string (y := y_jStr_length) (i := 18) rfl rfl (by decide +kernel) rfl c_jStr_length_v204 wm_674 wm_11 wm_3003 wm_672 wm_673 ⟨by decide, by decide, by decide +kernel⟩ (by decide), List.forall_mem_cons.mpr ⟨cl_string (y := y_jStr_charAt) (i := 18) rfl rfl (by decide +kernel) rfl c_jStr_charAt_v205 wm_684 wm_11 wm_3004 wm_682 wm_683 ⟨by decide, by decide, by decide +kernel⟩ (by decide), List.forall_mem_cons.mpr ⟨cl_virtual (y := y_Mo_write1) (ci := 13) rfl rfl ⟨_, _, rfl⟩ (by decide +kernel) h_Mo_write1 wm_3914 wm_9 wm_3911 wm_3913 wv_24_8 ⟨by decide, by decide, by decide +kernel⟩ (by decide), List.forall_mem_nil _⟩⟩⟩, List.forall_mem_nil _, List.forall_mem_nil _, GG_pl⟩ (by decide +kernel)
def n_Mo_write_at_s5019_an : List an_T := [(2, [(0, (2, 0, 0, [150])), (1, (2, 0, 0, [5019])), (2, (0, 0, 3, []))], [], (0, 0), [(0, 0, 99998), (1, 2, 3), (0, 0, 100000)], [], [((0, 170), (0, -2147483648, 2147483647, []))], [], 0, [], [])]
def t_Mo_write_at_s5019_ct : ct_L := [(16, 448, e_jStr_length_v207), (43, 453, e_jStr_charAt_v208), (52, 1280, e_Mo_write1)]
set_option maxRecDepth 100000 in
theorem c_Mo_write_at_s5019 {l : Launch} {D : va_G} {kA : Nat → ClassId} (h_Mo_write1 : ct_ok l D kA GG y_Mo_write1 z_Mo_write1 e_Mo_write1) : ct_ok l D kA GG y_Mo_write_at_s5019 z_Mo_write_at_s5019 e_Mo_write_at_s5019 := chk_all_ok (FT := []) (PT := []) (CT := t_Mo_write_at_s5019_ct) (KT := []) (NT := []) (AN := n_Mo_write_at_s5019_an) (OT := []) 3 200 (List.forall_mem_nil _) (by decide +kernel) ⟨List.forall_mem_nil _, List.forall_mem_nil _, List.forall_mem_cons.mpr ⟨cl_string (y := y_jStr_length) (i := 19) rfl rfl (by decide +kernel) rfl c_jStr_length_v207 wm_674 wm_11 wm_3003 wm_672 wm_673 ⟨by decide, by decide, by decide +kernel⟩ (by decide), List.forall_mem_cons.mpr ⟨cl_string (y := y_jStr_charAt) (i := 19) rfl rfl (by decide +kernel) rfl c_jStr_charAt_v208 wm_684 wm_11 wm_3004 wm_682 wm_683 ⟨by decide, by decide, by decide +kernel⟩ (by decide), List.forall_mem_cons.mpr ⟨cl_virtual (y := y_Mo_write1) (ci := 13) rfl rfl ⟨_, _, rfl⟩ (by decide +kernel) h_Mo_write1 wm_3914 wm_9 wm_3911 wm_3913 wv_24_8 ⟨by decide, by decide, by decide +kernel⟩ (by decide), List.forall_mem_nil _⟩⟩⟩, List.forall_mem_nil _, List.forall_mem_nil _, GG_pl⟩ (by decide +kernel)
def n_Mo_write_at_s5020_an : List an_T := [(2, [(0, (2, 0, 0, [150])), (1, (2, 0, 0, [5020])), (2, (0, 0, 3, []))], [], (0, 0), [(0, 0, 99998), (1, 2, 3), (0, 0, 100000)], [], [((0, 170), (0, -2147483648, 2147483647, []))], [], 0, [], [])]
def t_Mo_write_at_s5020_ct : ct_L := [(16, 448, e_jStr_length_v210), (43, 453, e_jStr_charAt_v211), (52, 1280, e_Mo_write1)]
set_option maxRecDepth 100000 in
theorem c_Mo_write_at_s5020 {l : Launch} {D : va_G} {kA : Nat → ClassId} (h_Mo_write1 : ct_ok l D kA GG y_Mo_write1 z_Mo_write1 e_Mo_write1) : ct_ok l D kA GG y_Mo_write_at_s5020 z_Mo_write_at_s5020 e_Mo_write_at_s5020 := chk_all_ok (FT := []) (PT := []) (CT := t_Mo_write_at_s5020_ct) (KT := []) (NT := []) (AN := n_Mo_write_at_s5020_an) (OT := []) 3 200 (List.forall_mem_nil _) (by decide +kernel) ⟨List.forall_mem_nil _, List.forall_mem_nil _, List.forall_mem_cons.mpr ⟨cl_string (y := y_jStr_length) (i := 20) rfl rfl (by decide +kernel) rfl c_jStr_length_v210 wm_674 wm_11 wm_3003 wm_672 wm_673 ⟨by decide, by decide, by decide +kernel⟩ (by decide), List.forall_mem_cons.mpr ⟨cl_string (y := y_jStr_charAt) (i := 20) rfl rfl (by decide +kernel) rfl c_jStr_charAt_v211 wm_684 wm_11 wm_3004 wm_682 wm_683 ⟨by decide, by decide, by decide +kernel⟩ (by decide), List.forall_mem_cons.mpr ⟨cl_virtual (y := y_Mo_write1) (ci := 13) rfl rfl ⟨_, _, rfl⟩ (by decide +kernel) h_Mo_write1 wm_3914 wm_9 wm_3911 wm_3913 wv_24_8 ⟨by decide, by decide, by decide +kernel⟩ (by decide), List.forall_mem_nil _⟩⟩⟩, List.forall_mem_nil _, List.forall_mem_nil _, GG_pl⟩ (by decide +kernel)
def n_Mo_write_at_s5021_an : List an_T := [(2, [(0, (2, 0, 0, [150])), (1, (2, 0, 0, [5021])), (2, (0, 0, 9, []))], [], (0, 0), [(0, 0, 99998), (1, 2, 9), (0, 0, 100000)], [], [((0, 170), (0, -2147483648, 2147483647, []))], [], 0, [], [])]
def t_Mo_write_at_s5021_ct : ct_L := [(16, 448, e_jStr_length_v213), (43, 453, e_jStr_charAt_v214), (52, 1280, e_Mo_write1)]
set_option maxRecDepth 100000 in
theorem c_Mo_write_at_s5021 {l : Launch} {D : va_G} {kA : Nat → ClassId} (h_Mo_write1 : ct_ok l D kA GG y_Mo_write1 z_Mo_write1 e_Mo_write1) : ct_ok l D kA GG y_Mo_write_at_s5021 z_Mo_write_at_s5021 e_Mo_write_at_s5021 := chk_all_ok (FT := []) (PT := []) (CT := t_Mo_write_at_s5021_ct) (KT := []) (NT := []) (AN := n_Mo_write_at_s5021_an) (OT := []) 3 200 (List.forall_mem_nil _) (by decide +kernel) ⟨List.forall_mem_nil _, List.forall_mem_nil _, List.forall_mem_cons.mpr ⟨cl_string (y := y_jStr_length) (i := 21) rfl rfl (by decide +kernel) rfl c_jStr_length_v213 wm_674 wm_11 wm_3003 wm_672 wm_673 ⟨by decide, by decide, by decide +kernel⟩ (by decide), List.forall_mem_cons.mpr ⟨cl_string (y := y_jStr_charAt) (i := 21) rfl rfl (by decide +kernel) rfl c_jStr_charAt_v214 wm_684 wm_11 wm_3004 wm_682 wm_683 ⟨by decide, by decide, by decide +kernel⟩ (by decide), List.forall_mem_cons.mpr ⟨cl_virtual (y := y_Mo_write1) (ci := 13) rfl rfl ⟨_, _, rfl⟩ (by decide +kernel) h_Mo_write1 wm_3914 wm_9 wm_3911 wm_3913 wv_24_8 ⟨by decide, by decide, by decide +kernel⟩ (by decide), List.forall_mem_nil _⟩⟩⟩, List.forall_mem_nil _, List.forall_mem_nil _, GG_pl⟩ (by decide +kernel)
def n_Mo_write_at_s5045_an : List an_T := [(2, [(0, (2, 0, 0, [150])), (1, (2, 0, 0, [5045])), (2, (0, 0, 1, []))], [], (0, 0), [(0, 0, 99998), (1, 2, 1), (0, 0, 100000)], [], [((0, 170), (0, -2147483648, 2147483647, []))], [], 0, [], [])]
def t_Mo_write_at_s5045_ct : ct_L := [(16, 448, e_jStr_length_v304), (43, 453, e_jStr_charAt_v305), (52, 1280, e_Mo_write1)]
set_option maxRecDepth 100000 in
theorem c_Mo_write_at_s5045 {l : Launch} {D : va_G} {kA : Nat → ClassId} (h_Mo_write1 : ct_ok l D kA GG y_Mo_write1 z_Mo_write1 e_Mo_write1) : ct_ok l D kA GG y_Mo_write_at_s5045 z_Mo_write_at_s5045 e_Mo_write_at_s5045 := chk_all_ok (FT := []) (PT := []) (CT := t_Mo_write_at_s5045_ct) (KT := []) (NT := []) (AN := n_Mo_write_at_s5045_an) (OT := []) 3 200 (List.forall_mem_nil _) (by decide +kernel) ⟨List.forall_mem_nil _, List.forall_mem_nil _, List.forall_mem_cons.mpr ⟨cl_string (y := y_jStr_length) (i := 45) rfl rfl (by decide +kernel) rfl c_jStr_length_v304 wm_674 wm_11 wm_3003 wm_672 wm_673 ⟨by decide, by decide, by decide +kernel⟩ (by decide), List.forall_mem_cons.mpr ⟨cl_string (y := y_jStr_charAt) (i := 45) rfl rfl (by decide +kernel) rfl c_jStr_charAt_v305 wm_684 wm_11 wm_3004 wm_682 wm_683 ⟨by decide, by decide, by decide +kernel⟩ (by decide), List.forall_mem_cons.mpr ⟨cl_virtual (y := y_Mo_write1) (ci := 13) rfl rfl ⟨_, _, rfl⟩ (by decide +kernel) h_Mo_write1 wm_3914 wm_9 wm_3911 wm_3913 wv_24_8 ⟨by decide, by decide, by decide +kernel⟩ (by decide), List.forall_mem_nil _⟩⟩⟩, List.forall_mem_nil _, List.forall_mem_nil _, GG_pl⟩ (by decide +kernel)
