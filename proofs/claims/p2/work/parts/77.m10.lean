def n_Mo_turnEdges_an : List an_T := [(8, [(0, (2, 0, 0, [150])), (1, (0, 0, 24, [])), (2, (0, 0, 48, []))], [], (0, 0), [(0, 0, 99992), (1, 2, 48), (0, 0, 100000), (0, 0, 0), (0, 0, 0)], [(1, 2, -1000000000000, 24)], [], [], 0, [], []), (31, [(0, (2, 0, 0, [150])), (1, (0, 0, 24, [])), (2, (0, 0, 24, []))], [], (0, 0), [(0, 0, 99969), (1, 2, 24), (0, 0, 100000), (0, 0, 0), (0, 0, 0)], [(1, 2, -1000000000000, 24), (1, 3, -1000000000000, 24), (2, 1, -1000000000000, 0), (3, 1, -1000000000000, 26), (3, 2, -1000000000000, 26)], [((0, 99), (0, 0, 26, []))], [], 0, [], []), (43, [(0, (2, 0, 0, [150])), (1, (0, 1, 24, [])), (2, (0, 0, 23, [])), (3, (0, 0, 24, []))], [], (0, 0), [(0, 0, 99969), (1, 2, 24), (0, 0, 99957), (1, 3, 24), (0, 0, 100000)], [(1, 2, -1000000000000, 24), (1, 3, -1000000000000, 24), (1, 4, -1000000000000, 24), (2, 1, -1000000000000, -1), (4, 3, -1000000000000, 0)], [((0, 99), (0, 0, 24, []))], [], 0, [], []), (123, [(0, (2, 0, 0, [150])), (1, (0, 1, 24, [])), (2, (0, 0, 23, [])), (3, (0, 0, 48, []))], [], (0, 0), [(0, 0, 99969), (1, 2, 24), (0, 0, 99877), (1, 3, 48), (0, 0, 100000)], [(1, 2, -1000000000000, 24), (1, 3, -1000000000000, 24), (2, 1, -1000000000000, -1)], [], [], 0, [], [])]
def t_Mo_turnEdges_ct : ct_L := [(1, 394, e_Mo_tail), (1, 398, e_Mo_head), (1, 401, e_Mo_edges), (1, 475, e_Mo_nodes), (1, 719, e_Mo_strong), (1, 798, e_Mo_bestOrder), (1, 801, e_Mo_greedyOrder), (1, 804, e_Mo_placeIn)]
set_option maxRecDepth 100000 in
theorem c_Mo_turnEdges {l : Launch} {D : va_G} {kA : Nat → ClassId} (h_Mo_bestOrder : ct_ok l D kA GG y_Mo_bestOrder z_Mo_bestOrder e_Mo_bestOrder) (h_Mo_edges : ct_ok l D kA GG y_Mo_edges z_Mo_edges e_Mo_edges) (h_Mo_greedyOrder : ct_ok l D kA GG y_Mo_greedyOrder z_Mo_greedyOrder e_Mo_greedyOrder) (h_Mo_head : ct_ok l D kA GG y_Mo_head z_Mo_head e_Mo_head) (h_Mo_nodes : ct_ok l D kA GG y_Mo_nodes z_Mo_nodes e_Mo_nodes) (h_Mo_placeIn : ct_ok l D kA GG y_Mo_placeIn z_Mo_placeIn e_Mo_placeIn) (h_Mo_strong : ct_ok l D kA GG y_Mo_strong z_Mo_strong e_Mo_strong) (h_Mo_tail : ct_ok l D kA GG y_Mo_tail z_Mo_tail e_Mo_tail) : ct_ok l D kA GG y_Mo_turnEdges z_Mo_turnEdges e_Mo_turnEdges := chk_all_ok (FT := [(35, 13, 18), (210, 13, 95), (219, 13, 98), (795, 13, 99)]) (PT := [(795, 13, 99, .int)]) (CT := t_Mo_turnEdges_ct) (KT := []) (NT := []) (AN := n_Mo_turnEdges_an) (OT := []) 5 496 (List.forall_mem_nil _) (by decide +kernel) ⟨List.forall_mem_cons.mpr ⟨gf_Mo_35, List.forall_mem_cons.mpr ⟨gf_Mo_210, List.forall_mem_cons.mpr ⟨gf_Mo_219, List.forall_mem_cons.mpr ⟨gf_Mo_795, List.forall_mem_nil _⟩⟩⟩⟩, List.forall_mem_cons.mpr ⟨pf_Mo_795, List.forall_mem_nil _⟩, List.forall_mem_cons.mpr ⟨cl_virtual (y := y_Mo_tail) (ci := 13) rfl rfl ⟨_, _, rfl⟩ (by decide +kernel) h_Mo_tail wm_3045 wm_9 wm_3042 wm_3044 wv_13_8 ⟨by decide, by decide, by decide +kernel⟩ (by decide), List.forall_mem_cons.mpr ⟨cl_virtual (y := y_Mo_head) (ci := 13) rfl rfl ⟨_, _, rfl⟩ (by decide +kernel) h_Mo_head wm_3049 wm_9 wm_3046 wm_3048 wv_13_9 ⟨by decide, by decide, by decide +kernel⟩ (by decide), List.forall_mem_cons.mpr ⟨cl_virtual (y := y_Mo_edges) (ci := 13) rfl rfl ⟨_, _, rfl⟩ (by decide +kernel) h_Mo_edges wm_3037 wm_9 wm_3034 wm_3036 wv_13_6 ⟨by decide, by decide, by decide +kernel⟩ (by decide), List.forall_mem_cons.mpr ⟨cl_virtual (y := y_Mo_nodes) (ci := 13) rfl rfl ⟨_, _, rfl⟩ (by decide +kernel) h_Mo_nodes wm_3025 wm_9 wm_3022 wm_3024 wv_13_3 ⟨by decide, by decide, by decide +kernel⟩ (by decide), List.forall_mem_cons.mpr ⟨cl_virtual (y := y_Mo_strong) (ci := 13) rfl rfl ⟨_, _, rfl⟩ (by decide +kernel) h_Mo_strong wm_3291 wm_9 wm_3288 wm_3290 wv_16_13 ⟨by decide, by decide, by decide +kernel⟩ (by decide), List.forall_mem_cons.mpr ⟨cl_virtual (y := y_Mo_bestOrder) (ci := 13) rfl rfl ⟨_, _, rfl⟩ (by decide +kernel) h_Mo_bestOrder wm_3379 wm_9 wm_3376 wm_3378 wv_17_13 ⟨by decide, by decide, by decide +kernel⟩ (by decide), List.forall_mem_cons.mpr ⟨cl_virtual (y := y_Mo_greedyOrder) (ci := 13) rfl rfl ⟨_, _, rfl⟩ (by decide +kernel) h_Mo_greedyOrder wm_3387 wm_9 wm_3384 wm_3386 wv_17_15 ⟨by decide, by decide, by decide +kernel⟩ (by decide), List.forall_mem_cons.mpr ⟨cl_virtual (y := y_Mo_placeIn) (ci := 13) rfl rfl ⟨_, _, rfl⟩ (by decide +kernel) h_Mo_placeIn wm_3391 wm_9 wm_3388 wm_3390 wv_18_0 ⟨by decide, by decide, by decide +kernel⟩ (by decide), List.forall_mem_nil _⟩⟩⟩⟩⟩⟩⟩⟩, List.forall_mem_nil _, List.forall_mem_nil _⟩ (by decide +kernel)
def n_Fa_learnTurned_an : List an_T := [(10, [(0, (2, 0, 0, [2])), (1, (2, 0, 0, [3])), (2, (0, 0, 48, []))], [], (0, 0), [(0, 0, 99990), (1, 2, 48), (0, 0, 100000)], [], [], [], 0, [], []), (61, [(0, (2, 0, 0, [2])), (1, (2, 0, 0, [3])), (2, (0, 0, 24, [])), (3, (0, 0, 24, []))], [], (0, 0), [(0, 0, 99939), (1, 3, 24), (0, 0, 100000)], [], [], [], 0, [], []), (115, [(0, (2, 0, 0, [2])), (1, (2, 0, 0, [3])), (2, (0, 0, 24, [])), (3, (0, 0, 48, []))], [], (0, 0), [(0, 0, 99885), (1, 3, 48), (0, 0, 100000)], [], [], [], 0, [], [])]
def t_Fa_learnTurned_ct : ct_L := [(1, 148, e_Fa_numberStrong), (1, 156, e_Fa_gather), (1, 159, e_Fa_orderLarge), (1, 163, e_Fa_orderSmall), (18, 139, e_jArr_fill1_v23)]
set_option maxRecDepth 100000 in
theorem c_Fa_learnTurned {l : Launch} {D : va_G} {kA : Nat → ClassId} (h_Fa_gather : ct_ok l D kA GG y_Fa_gather z_Fa_gather e_Fa_gather) (h_Fa_numberStrong : ct_ok l D kA GG y_Fa_numberStrong z_Fa_numberStrong e_Fa_numberStrong) (h_Fa_orderLarge : ct_ok l D kA GG y_Fa_orderLarge z_Fa_orderLarge e_Fa_orderLarge) (h_Fa_orderSmall : ct_ok l D kA GG y_Fa_orderSmall z_Fa_orderSmall e_Fa_orderSmall) : ct_ok l D kA GG y_Fa_learnTurned z_Fa_learnTurned e_Fa_learnTurned := chk_all_ok (FT := [(41, 2, 9), (45, 2, 10), (48, 2, 11), (51, 2, 12), (64, 3, 0), (69, 3, 1), (72, 3, 7), (75, 3, 8)]) (PT := []) (CT := t_Fa_learnTurned_ct) (KT := []) (NT := []) (AN := n_Fa_learnTurned_an) (OT := []) 3 472 (List.forall_mem_nil _) (by decide +kernel) ⟨List.forall_mem_cons.mpr ⟨gf_Fa_41, List.forall_mem_cons.mpr ⟨gf_Fa_45, List.forall_mem_cons.mpr ⟨gf_Fa_48, List.forall_mem_cons.mpr ⟨gf_Fa_51, List.forall_mem_cons.mpr ⟨gf_Fa_64, List.forall_mem_cons.mpr ⟨gf_Fa_69, List.forall_mem_cons.mpr ⟨gf_Fa_72, List.forall_mem_cons.mpr ⟨gf_Fa_75, List.forall_mem_nil _⟩⟩⟩⟩⟩⟩⟩⟩, List.forall_mem_nil _, List.forall_mem_cons.mpr ⟨cl_virtual (y := y_Fa_numberStrong) (ci := 2) rfl rfl ⟨_, _, rfl⟩ (by decide +kernel) h_Fa_numberStrong wm_859 wm_7 wm_856 wm_858 wv_2_2 ⟨by decide, by decide, by decide +kernel⟩ (by decide), List.forall_mem_cons.mpr ⟨cl_virtual (y := y_Fa_gather) (ci := 2) rfl rfl ⟨_, _, rfl⟩ (by decide +kernel) h_Fa_gather wm_881 wm_7 wm_878 wm_880 wv_2_6 ⟨by decide, by decide, by decide +kernel⟩ (by decide), List.forall_mem_cons.mpr ⟨cl_virtual (y := y_Fa_orderLarge) (ci := 2) rfl rfl ⟨_, _, rfl⟩ (by decide +kernel) h_Fa_orderLarge wm_885 wm_7 wm_882 wm_884 wv_2_7 ⟨by decide, by decide, by decide +kernel⟩ (by decide), List.forall_mem_cons.mpr ⟨cl_virtual (y := y_Fa_orderSmall) (ci := 2) rfl rfl ⟨_, _, rfl⟩ (by decide +kernel) h_Fa_orderSmall wm_904 wm_7 wm_901 wm_903 wv_2_10 ⟨by decide, by decide, by decide +kernel⟩ (by decide), List.forall_mem_cons.mpr ⟨cl_static (y := y_jArr_fill1) c_jArr_fill1_v23 wm_55 wm_4 wm_855 wm_54 ⟨by decide, by decide, by decide +kernel⟩ (by decide), List.forall_mem_nil _⟩⟩⟩⟩⟩, List.forall_mem_nil _, List.forall_mem_nil _⟩ (by decide +kernel)
def o_Pl_layAreas_0 : or_T := (69, 15, [(2, (0, 0, 7, [])), (5, (0, 1, 8, [])), (8, (0, 4, 4, [])), (9, (0, 24, 24, [])), (10, (0, 24, 31, [])), (11, (0, 96, 124, [])), (13, (0, 0, 0, [])), (14, (0, 4, 4, []))], [(3, [11, 8, 10], []), (1, [10, 9, 2], []), (102, [6], [118842243771396506390315925504, 6011]), (7, [2, 5], [2])], [], [], [(21, [11, 14], [128]), (21, [13, 14], [4])], [], [(10, 2, 24, 24), (10, 5, -4294967296, 23), (2, 5, -4294967296, -1)])
theorem oo_Pl_layAreas_0 {kA : Nat → ClassId} : or_ok kA GG o_Pl_layAreas_0 := by
  intro A ta ws vs hD hth hl hk hds hf
  have hl : vs.length = 15 := hl
  have hk : ∀ q ∈ ([(2, (0, 0, 7, [])), (5, (0, 1, 8, [])), (8, (0, 4, 4, [])), (9, (0, 24, 24, [])), (10, (0, 24, 31, [])), (11, (0, 96, 124, [])), (13, (0, 0, 0, [])), (14, (0, 4, 4, []))] : List (Nat × tv_T)), tv_ok ta q.2 (n_v vs q.1) := hk
  obtain ⟨t2, hk⟩ := List.forall_mem_cons.mp hk
  have t2 : tv_ok ta (0, 0, 7, []) (n_v vs 2) := t2
  have k2 : 0 ≤ v_iv (n_v vs 2) ∧ v_iv (n_v vs 2) ≤ 7 := tv_rng t2
  obtain ⟨t5, hk⟩ := List.forall_mem_cons.mp hk
  have t5 : tv_ok ta (0, 1, 8, []) (n_v vs 5) := t5
  have k5 : 1 ≤ v_iv (n_v vs 5) ∧ v_iv (n_v vs 5) ≤ 8 := tv_rng t5
  obtain ⟨t8, hk⟩ := List.forall_mem_cons.mp hk
  have t8 : tv_ok ta (0, 4, 4, []) (n_v vs 8) := t8
  have k8 : 4 ≤ v_iv (n_v vs 8) ∧ v_iv (n_v vs 8) ≤ 4 := tv_rng t8
  obtain ⟨t9, hk⟩ := List.forall_mem_cons.mp hk
  have t9 : tv_ok ta (0, 24, 24, []) (n_v vs 9) := t9
  have k9 : 24 ≤ v_iv (n_v vs 9) ∧ v_iv (n_v vs 9) ≤ 24 := tv_rng t9
  obtain ⟨t10, hk⟩ := List.forall_mem_cons.mp hk
  have t10 : tv_ok ta (0, 24, 31, []) (n_v vs 10) := t10
  have k10 : 24 ≤ v_iv (n_v vs 10) ∧ v_iv (n_v vs 10) ≤ 31 := tv_rng t10
  obtain ⟨t11, hk⟩ := List.forall_mem_cons.mp hk
  have t11 : tv_ok ta (0, 96, 124, []) (n_v vs 11) := t11
  have k11 : 96 ≤ v_iv (n_v vs 11) ∧ v_iv (n_v vs 11) ≤ 124 := tv_rng t11
  obtain ⟨t13, hk⟩ := List.forall_mem_cons.mp hk
  have t13 : tv_ok ta (0, 0, 0, []) (n_v vs 13) := t13
  have k13 : 0 ≤ v_iv (n_v vs 13) ∧ v_iv (n_v vs 13) ≤ 0 := tv_rng t13
  obtain ⟨t14, hk⟩ := List.forall_mem_cons.mp hk
  have t14 : tv_ok ta (0, 4, 4, []) (n_v vs 14) := t14
  have k14 : 4 ≤ v_iv (n_v vs 14) ∧ v_iv (n_v vs 14) ≤ 4 := tv_rng t14
  have hds : ∀ q ∈ ([(10, 2, 24, 24), (10, 5, -4294967296, 23), (2, 5, -4294967296, -1)] : List of_T), n_iv vs q.2.1 + q.2.2.1 ≤ n_iv vs q.1 ∧ n_iv vs q.1 ≤ n_iv vs q.2.1 + q.2.2.2 := hds
  obtain ⟨d0, hds⟩ := List.forall_mem_cons.mp hds
  have d0 : v_iv (n_v vs 2) + 24 ≤ v_iv (n_v vs 10) ∧ v_iv (n_v vs 10) ≤ v_iv (n_v vs 2) + 24 := d0
  obtain ⟨d1, hds⟩ := List.forall_mem_cons.mp hds
  have d1 : v_iv (n_v vs 5) + (-4294967296) ≤ v_iv (n_v vs 10) ∧ v_iv (n_v vs 10) ≤ v_iv (n_v vs 5) + 23 := d1
  obtain ⟨d2, hds⟩ := List.forall_mem_cons.mp hds
  have d2 : v_iv (n_v vs 5) + (-4294967296) ≤ v_iv (n_v vs 2) ∧ v_iv (n_v vs 2) ≤ v_iv (n_v vs 5) + (-1) := d2
  have hf : fc_ok [(3, [11, 8, 10], []), (1, [10, 9, 2], []), (102, [6], [118842243771396506390315925504, 6011]), (7, [2, 5], [2])] ta ws vs := hf
  obtain ⟨f0, hf⟩ := fc_un (by decide) hf
  have f0 : v_iv (n_v vs 11) = v_iv (n_v vs 8) * v_iv (n_v vs 10) := f0
  rw [show v_iv (n_v vs 8) = 4 from by omega] at f0
  obtain ⟨f1, hf⟩ := fc_un (by decide) hf
  have f1 : v_iv (n_v vs 10) = v_iv (n_v vs 9) + v_iv (n_v vs 2) := f1
  obtain ⟨ta1, w1, le1, ⟨_, s1⟩, hf⟩ := fc_us (by decide) hf
  obtain ⟨f3, hf⟩ := fc_un (by decide) hf
  have f3 : v_iv (n_v vs 2) < v_iv (n_v vs 5) := f3
  have nf0 : fc_1 (21, [11, 14], [128]) ws (vs) := by
    refine ⟨fun n hn => ?_, ?_⟩
    · have hn : n ∈ [11, 14] := hn
      rw [hl]
      simp only [List.mem_cons, List.not_mem_nil, or_false] at hn
      show n < 15; omega
    · show v_iv (n_v vs 11) + v_iv (n_v vs 14) ≤ 128
      omega
  have nf1 : fc_1 (21, [13, 14], [4]) ws (vs) := by
    refine ⟨fun n hn => ?_, ?_⟩
    · have hn : n ∈ [13, 14] := hn
      rw [hl]
      simp only [List.mem_cons, List.not_mem_nil, or_false] at hn
      show n < 15; omega
    · show v_iv (n_v vs 13) + v_iv (n_v vs 14) ≤ 4
      omega
  refine ⟨(fun _ h => (by cases h)), [], trivial, ?_, (fun _ h => (by cases h))⟩
  rw [List.append_nil]
  exact List.forall_mem_cons.mpr ⟨⟨by decide, nf0⟩, List.forall_mem_cons.mpr ⟨⟨by decide, nf1⟩, (fun _ h => (by cases h))⟩⟩
def n_Pl_layAreas_an : List an_T := [(23, [(0, (2, 0, 0, [6])), (1, (0, -2147483648, 2147483647, [])), (2, (0, 0, 8, []))], [], (0, 0), [(0, 0, 99977), (1, 2, 8), (0, 0, 100000)], [], [((0, 1), (2, 0, 0, [0])), ((0, 0), (2, 0, 0, [3]))], [], 0, [], []), (84, [(0, (2, 0, 0, [6])), (1, (0, -2147483648, 2147483647, [])), (2, (0, 0, 24, []))], [], (0, 0), [(0, 0, 99916), (1, 2, 24), (0, 0, 100000)], [], [((0, 1), (2, 0, 0, [0])), ((0, 0), (2, 0, 0, [3]))], [], 0, [], [])]
def t_Pl_layAreas_ct : ct_L := [(1, 162, e_Pl_setArea), (1, 169, e_Gr_sizeOfGroup), (1, 172, e_Pl_gatherItems), (1, 181, e_Pl_layRows), (27, 156, e_jArr_fill1_v137), (210, 175, e_acp_81), (210, 175, e_acp_82), (210, 175, e_acp_83), (210, 175, e_acp_84), (210, 175, e_acp_85), (210, 175, e_acp_86)]
set_option maxRecDepth 100000 in
theorem c_Pl_layAreas {l : Launch} {D : va_G} {kA : Nat → ClassId} (h_Gr_sizeOfGroup : ct_ok l D kA GG y_Gr_sizeOfGroup z_Gr_sizeOfGroup e_Gr_sizeOfGroup) (h_Pl_gatherItems : ct_ok l D kA GG y_Pl_gatherItems z_Pl_gatherItems e_Pl_gatherItems) (h_Pl_layRows : ct_ok l D kA GG y_Pl_layRows z_Pl_layRows e_Pl_layRows) (h_Pl_setArea : ct_ok l D kA GG y_Pl_setArea z_Pl_setArea e_Pl_setArea) : ct_ok l D kA GG y_Pl_layAreas z_Pl_layAreas e_Pl_layAreas := chk_all_ok (FT := [(9, 6, 0), (15, 6, 1), (51, 6, 12), (74, 3, 0), (127, 0, 2), (135, 0, 3), (153, 0, 13), (166, 3, 2)]) (PT := []) (CT := t_Pl_layAreas_ct) (KT := []) (NT := []) (AN := n_Pl_layAreas_an) (OT := [o_Pl_layAreas_0]) 3 424 (List.forall_mem_cons.mpr ⟨oo_Pl_layAreas_0, List.forall_mem_nil _⟩) (by decide +kernel) ⟨List.forall_mem_cons.mpr ⟨gf_Pl_9, List.forall_mem_cons.mpr ⟨gf_Pl_15, List.forall_mem_cons.mpr ⟨gf_Pl_51, List.forall_mem_cons.mpr ⟨gf_Pl_74, List.forall_mem_cons.mpr ⟨gf_Pl_127, List.forall_mem_cons.mpr ⟨gf_Pl_135, List.forall_mem_cons.mpr ⟨gf_Pl_153, List.forall_mem_cons.mpr ⟨gf_Pl_166, List.forall_mem_nil _⟩⟩⟩⟩⟩⟩⟩⟩, List.forall_mem_nil _, List.forall_mem_cons.mpr ⟨cl_virtual (y := y_Pl_setArea) (ci := 6) rfl rfl ⟨_, _, rfl⟩ (by decide +kernel) h_Pl_setArea wm_1725 wm_21 wm_1722 wm_1724 wv_7_13 ⟨by decide, by decide, by decide +kernel⟩ (by decide), List.forall_mem_cons.mpr ⟨cl_virtual (y := y_Gr_sizeOfGroup) (ci := 3) rfl rfl ⟨_, _, rfl⟩ (by decide +kernel) h_Gr_sizeOfGroup wm_946 wm_3 wm_1726 wm_944 wm_945 ⟨by decide, by decide, by decide +kernel⟩ (by decide), List.forall_mem_cons.mpr ⟨cl_virtual (y := y_Pl_gatherItems) (ci := 6) rfl rfl ⟨_, _, rfl⟩ (by decide +kernel) h_Pl_gatherItems wm_1730 wm_21 wm_1727 wm_1729 wv_7_14 ⟨by decide, by decide, by decide +kernel⟩ (by decide), List.forall_mem_cons.mpr ⟨cl_virtual (y := y_Pl_layRows) (ci := 6) rfl rfl ⟨_, _, rfl⟩ (by decide +kernel) h_Pl_layRows wm_1739 wm_21 wm_1736 wm_1738 wv_8_0 ⟨by decide, by decide, by decide +kernel⟩ (by decide), List.forall_mem_cons.mpr ⟨cl_static (y := y_jArr_fill1) c_jArr_fill1_v137 wm_55 wm_4 wm_1721 wm_54 ⟨by decide, by decide, by decide +kernel⟩ (by decide), List.forall_mem_cons.mpr ⟨cl_copy rfl rfl (by decide) (by decide) (by decide) wm_1735 wm_750 wm_749 wm_15, List.forall_mem_cons.mpr ⟨cl_copy rfl rfl (by decide) (by decide) (by decide) wm_1735 wm_750 wm_749 wm_15, List.forall_mem_cons.mpr ⟨cl_copy rfl rfl (by decide) (by decide) (by decide) wm_1735 wm_750 wm_749 wm_15, List.forall_mem_cons.mpr ⟨cl_copy rfl rfl (by decide) (by decide) (by decide) wm_1735 wm_750 wm_749 wm_15, List.forall_mem_cons.mpr ⟨cl_copy rfl rfl (by decide) (by decide) (by decide) wm_1735 wm_750 wm_749 wm_15, List.forall_mem_cons.mpr ⟨cl_copy rfl rfl (by decide) (by decide) (by decide) wm_1735 wm_750 wm_749 wm_15, List.forall_mem_nil _⟩⟩⟩⟩⟩⟩⟩⟩⟩⟩⟩, List.forall_mem_nil _, List.forall_mem_nil _⟩ (by decide +kernel)
def n_Mo_writeDrawing_an : List an_T := [(2, [(0, (2, 0, 0, [150])), (1, (0, 0, 24, []))], [], (0, 0), [(0, 0, 99998), (1, 1, 24), (0, 0, 100000), (0, 0, 0), (0, 0, 0)], [], [((0, 170), (0, -2147483648, 2147483647, []))], [], 0, [], []), (59, [(0, (2, 0, 0, [150])), (1, (0, 0, 48, []))], [], (0, 0), [(0, 0, 99941), (1, 1, 48), (0, 0, 100000), (0, 0, 0), (0, 0, 0)], [], [((0, 170), (0, -2147483648, 2147483647, []))], [], 0, [], []), (93, [(0, (2, 0, 0, [150])), (1, (0, 0, 47, [])), (2, (0, 1, 25, []))], [], (0, 0), [(0, 0, 99941), (1, 1, 48), (0, 0, 99907), (1, 2, 25), (0, 0, 100000)], [], [((0, 170), (0, -2147483648, 2147483647, []))], [], 0, [], [])]
def t_Mo_writeDrawing_ct : ct_L := [(1, 1293, e_Mo_writeNode), (1, 1298, e_Mo_writeNumber), (16, 475, e_Mo_nodes_np), (58, 1280, e_Mo_write1_np), (76, 1023, e_Mo_px_np), (103, 1280, e_Mo_write1_np), (121, 1029, e_Mo_py_np), (148, 1280, e_Mo_write1_np), (187, 401, e_Mo_edges_np), (214, 394, e_Mo_tail_np), (241, 1280, e_Mo_write1_np), (259, 398, e_Mo_head_np), (298, 1026, e_Mo_pointsOf_np), (325, 1280, e_Mo_write1_np), (346, 1085, e_Mo_ex_np), (373, 1280, e_Mo_write1_np), (394, 1088, e_Mo_ey_np), (439, 1280, e_Mo_write1_np)]
set_option maxRecDepth 100000 in
theorem c_Mo_writeDrawing {l : Launch} {D : va_G} {kA : Nat → ClassId} (h_Mo_edges : ct_ok l D kA GG y_Mo_edges z_Mo_edges e_Mo_edges) (h_Mo_ex : ct_ok l D kA GG y_Mo_ex z_Mo_ex e_Mo_ex) (h_Mo_ey : ct_ok l D kA GG y_Mo_ey z_Mo_ey e_Mo_ey) (h_Mo_head : ct_ok l D kA GG y_Mo_head z_Mo_head e_Mo_head) (h_Mo_nodes : ct_ok l D kA GG y_Mo_nodes z_Mo_nodes e_Mo_nodes) (h_Mo_pointsOf : ct_ok l D kA GG y_Mo_pointsOf z_Mo_pointsOf e_Mo_pointsOf) (h_Mo_px : ct_ok l D kA GG y_Mo_px z_Mo_px e_Mo_px) (h_Mo_py : ct_ok l D kA GG y_Mo_py z_Mo_py e_Mo_py) (h_Mo_tail : ct_ok l D kA GG y_Mo_tail z_Mo_tail e_Mo_tail) (h_Mo_write1 : ct_ok l D kA GG y_Mo_write1 z_Mo_write1 e_Mo_write1) (h_Mo_writeNode : ct_ok l D kA GG y_Mo_writeNode z_Mo_writeNode e_Mo_writeNode) (h_Mo_writeNumber : ct_ok l D kA GG y_Mo_writeNumber z_Mo_writeNumber e_Mo_writeNumber) : ct_ok l D kA GG y_Mo_writeDrawing z_Mo_writeDrawing e_Mo_writeDrawing := chk_all_ok (FT := []) (PT := []) (CT := t_Mo_writeDrawing_ct) (KT := []) (NT := []) (AN := n_Mo_writeDrawing_an) (OT := []) 5 336 (List.forall_mem_nil _) (by decide +kernel) ⟨List.forall_mem_nil _, List.forall_mem_nil _, List.forall_mem_cons.mpr ⟨cl_virtual (y := y_Mo_writeNode) (ci := 13) rfl rfl ⟨_, _, rfl⟩ (by decide +kernel) h_Mo_writeNode wm_3918 wm_9 wm_3915 wm_3917 wv_24_9 ⟨by decide, by decide, by decide +kernel⟩ (by decide), List.forall_mem_cons.mpr ⟨cl_virtual (y := y_Mo_writeNumber) (ci := 13) rfl rfl ⟨_, _, rfl⟩ (by decide +kernel) h_Mo_writeNumber wm_3927 wm_9 wm_3924 wm_3926 wv_24_11 ⟨by decide, by decide, by decide +kernel⟩ (by decide), List.forall_mem_cons.mpr ⟨cl_nopa (cl_virtual (y := y_Mo_nodes) (ci := 13) rfl rfl ⟨_, _, rfl⟩ (by decide +kernel) h_Mo_nodes wm_3025 wm_9 wm_3022 wm_3024 wv_13_3 ⟨by decide, by decide, by decide +kernel⟩ (by decide)), List.forall_mem_cons.mpr ⟨cl_nopa (cl_virtual (y := y_Mo_write1) (ci := 13) rfl rfl ⟨_, _, rfl⟩ (by decide +kernel) h_Mo_write1 wm_3914 wm_9 wm_3911 wm_3913 wv_24_8 ⟨by decide, by decide, by decide +kernel⟩ (by decide)), List.forall_mem_cons.mpr ⟨cl_nopa (cl_virtual (y := y_Mo_px) (ci := 13) rfl rfl ⟨_, _, rfl⟩ (by decide +kernel) h_Mo_px wm_3675 wm_9 wm_3672 wm_3674 wv_21_14 ⟨by decide, by decide, by decide +kernel⟩ (by decide)), List.forall_mem_cons.mpr ⟨cl_nopa (cl_virtual (y := y_Mo_write1) (ci := 13) rfl rfl ⟨_, _, rfl⟩ (by decide +kernel) h_Mo_write1 wm_3914 wm_9 wm_3911 wm_3913 wv_24_8 ⟨by decide, by decide, by decide +kernel⟩ (by decide)), List.forall_mem_cons.mpr ⟨cl_nopa (cl_virtual (y := y_Mo_py) (ci := 13) rfl rfl ⟨_, _, rfl⟩ (by decide +kernel) h_Mo_py wm_3679 wm_9 wm_3676 wm_3678 wv_21_15 ⟨by decide, by decide, by decide +kernel⟩ (by decide)), List.forall_mem_cons.mpr ⟨cl_nopa (cl_virtual (y := y_Mo_write1) (ci := 13) rfl rfl ⟨_, _, rfl⟩ (by decide +kernel) h_Mo_write1 wm_3914 wm_9 wm_3911 wm_3913 wv_24_8 ⟨by decide, by decide, by decide +kernel⟩ (by decide)), List.forall_mem_cons.mpr ⟨cl_nopa (cl_virtual (y := y_Mo_edges) (ci := 13) rfl rfl ⟨_, _, rfl⟩ (by decide +kernel) h_Mo_edges wm_3037 wm_9 wm_3034 wm_3036 wv_13_6 ⟨by decide, by decide, by decide +kernel⟩ (by decide)), List.forall_mem_cons.mpr ⟨cl_nopa (cl_virtual (y := y_Mo_tail) (ci := 13) rfl rfl ⟨_, _, rfl⟩ (by decide +kernel) h_Mo_tail wm_3045 wm_9 wm_3042 wm_3044 wv_13_8 ⟨by decide, by decide, by decide +kernel⟩ (by decide)), List.forall_mem_cons.mpr ⟨cl_nopa (cl_virtual (y := y_Mo_write1) (ci := 13) rfl rfl ⟨_, _, rfl⟩ (by decide +kernel) h_Mo_write1 wm_3914 wm_9 wm_3911 wm_3913 wv_24_8 ⟨by decide, by decide, by decide +kernel⟩ (by decide)), List.forall_mem_cons.mpr ⟨cl_nopa (cl_virtual (y := y_Mo_head) (ci := 13) rfl rfl ⟨_, _, rfl⟩ (by decide +kernel) h_Mo_head wm_3049 wm_9 wm_3046 wm_3048 wv_13_9 ⟨by decide, by decide, by decide +kernel⟩ (by decide)), List.forall_mem_cons.mpr ⟨cl_nopa (cl_virtual (y := y_Mo_pointsOf) (ci := 13) rfl rfl ⟨_, _, rfl⟩ (by decide +kernel) h_Mo_pointsOf wm_3726 wm_9 wm_3723 wm_3725 wv_22_8 ⟨by decide, by decide, by decide +kernel⟩ (by decide)), List.forall_mem_cons.mpr ⟨cl_nopa (cl_virtual (y := y_Mo_write1) (ci := 13) rfl rfl ⟨_, _, rfl⟩ (by decide +kernel) h_Mo_write1 wm_3914 wm_9 wm_3911 wm_3913 wv_24_8 ⟨by decide, by decide, by decide +kernel⟩ (by decide)), List.forall_mem_cons.mpr ⟨cl_nopa (cl_virtual (y := y_Mo_ex) (ci := 13) rfl rfl ⟨_, _, rfl⟩ (by decide +kernel) h_Mo_ex wm_3730 wm_9 wm_3727 wm_3729 wv_22_9 ⟨by decide, by decide, by decide +kernel⟩ (by decide)), List.forall_mem_cons.mpr ⟨cl_nopa (cl_virtual (y := y_Mo_write1) (ci := 13) rfl rfl ⟨_, _, rfl⟩ (by decide +kernel) h_Mo_write1 wm_3914 wm_9 wm_3911 wm_3913 wv_24_8 ⟨by decide, by decide, by decide +kernel⟩ (by decide)), List.forall_mem_cons.mpr ⟨cl_nopa (cl_virtual (y := y_Mo_ey) (ci := 13) rfl rfl ⟨_, _, rfl⟩ (by decide +kernel) h_Mo_ey wm_3734 wm_9 wm_3731 wm_3733 wv_22_10 ⟨by decide, by decide, by decide +kernel⟩ (by decide)), List.forall_mem_cons.mpr ⟨cl_nopa (cl_virtual (y := y_Mo_write1) (ci := 13) rfl rfl ⟨_, _, rfl⟩ (by decide +kernel) h_Mo_write1 wm_3914 wm_9 wm_3911 wm_3913 wv_24_8 ⟨by decide, by decide, by decide +kernel⟩ (by decide)), List.forall_mem_nil _⟩⟩⟩⟩⟩⟩⟩⟩⟩⟩⟩⟩⟩⟩⟩⟩⟩⟩, List.forall_mem_nil _, List.forall_mem_nil _⟩ (by decide +kernel)
def n_Ho_dots_an : List an_T := [(66, [(0, (2, 0, 0, [12])), (1, (0, 0, 3, [])), (2, (0, 1, 64, [])), (3, (0, 1, 64, [])), (4, (2, 0, 0, [0])), (5, (0, 0, 48, []))], [], (0, 0), [(0, 0, 99934), (1, 5, 48), (0, 0, 100000), (0, 0, 0), (0, 0, 0)], [], [], [], 0, [], []), (100, [(0, (2, 0, 0, [12])), (1, (0, 0, 3, [])), (2, (0, 1, 64, [])), (3, (0, 1, 64, [])), (4, (2, 0, 0, [0])), (5, (0, 0, 47, [])), (6, (0, 1, 256, [])), (7, (0, 0, 25, []))], [], (0, 0), [(0, 0, 99934), (1, 5, 48), (0, 0, 99900), (1, 7, 25), (0, 0, 100000)], [], [], [], 0, [], []), (140, [(0, (2, 0, 0, [12])), (1, (0, 0, 3, [])), (2, (0, 1, 64, [])), (3, (0, 1, 64, [])), (4, (2, 0, 0, [0])), (5, (0, 0, 24, []))], [], (0, 0), [(0, 0, 99860), (1, 5, 24), (0, 0, 100000), (0, 0, 0), (0, 0, 0)], [], [], [], 0, [], []), (218, [(0, (2, 0, 0, [12])), (1, (0, 0, 3, [])), (2, (0, 1, 64, [])), (3, (0, 1, 64, [])), (4, (2, 0, 0, [0])), (5, (0, -2147483648, 2147483647, [])), (6, (0, 0, 4096, []))], [], (0, 0), [(0, 0, 99782), (1, 6, 4096), (0, 0, 100000), (0, 0, 0), (0, 0, 0)], [], [], [], 0, [], [])]
def t_Ho_dots_ct : ct_L := [(1, 323, e_Ho_hasDrawing), (1, 381, e_Dr_measure), (1, 387, e_Ho_drawLine), (1, 394, e_Dr_scaledX), (1, 400, e_Dr_scaledY), (1, 403, e_Ho_setDot), (144, 375, e_jArr_fill1_v138)]
set_option maxRecDepth 100000 in
theorem c_Ho_dots {l : Launch} {D : va_G} {kA : Nat → ClassId} (h_Dr_measure : ct_ok l D kA GG y_Dr_measure z_Dr_measure e_Dr_measure) (h_Dr_scaledX : ct_ok l D kA GG y_Dr_scaledX z_Dr_scaledX e_Dr_scaledX) (h_Dr_scaledY : ct_ok l D kA GG y_Dr_scaledY z_Dr_scaledY e_Dr_scaledY) (h_Ho_drawLine : ct_ok l D kA GG y_Ho_drawLine z_Ho_drawLine e_Ho_drawLine) (h_Ho_hasDrawing : ct_ok l D kA GG y_Ho_hasDrawing z_Ho_hasDrawing e_Ho_hasDrawing) (h_Ho_setDot : ct_ok l D kA GG y_Ho_setDot z_Ho_setDot e_Ho_setDot) : ct_ok l D kA GG y_Ho_dots z_Ho_dots e_Ho_dots := chk_all_ok (FT := [(13, 12, 0), (31, 12, 3), (73, 12, 13), (132, 3, 0), (141, 3, 1), (361, 0, 14), (384, 0, 4), (391, 0, 2), (397, 0, 3)]) (PT := [(76, 12, 14, .int), (79, 12, 15, .int)]) (CT := t_Ho_dots_ct) (KT := []) (NT := []) (AN := n_Ho_dots_an) (OT := []) 5 592 (List.forall_mem_nil _) (by decide +kernel) ⟨List.forall_mem_cons.mpr ⟨gf_Ho_13, List.forall_mem_cons.mpr ⟨gf_Ho_31, List.forall_mem_cons.mpr ⟨gf_Ho_73, List.forall_mem_cons.mpr ⟨gf_Ho_132, List.forall_mem_cons.mpr ⟨gf_Ho_141, List.forall_mem_cons.mpr ⟨gf_Ho_361, List.forall_mem_cons.mpr ⟨gf_Ho_384, List.forall_mem_cons.mpr ⟨gf_Ho_391, List.forall_mem_cons.mpr ⟨gf_Ho_397, List.forall_mem_nil _⟩⟩⟩⟩⟩⟩⟩⟩⟩, List.forall_mem_cons.mpr ⟨pf_Ho_76, List.forall_mem_cons.mpr ⟨pf_Ho_79, List.forall_mem_nil _⟩⟩, List.forall_mem_cons.mpr ⟨cl_virtual (y := y_Ho_hasDrawing) (ci := 12) rfl rfl ⟨_, _, rfl⟩ (by decide +kernel) h_Ho_hasDrawing wm_1859 wm_1 wm_1856 wm_1858 wv_8_15 ⟨by decide, by decide, by decide +kernel⟩ (by decide), List.forall_mem_cons.mpr ⟨cl_virtual (y := y_Dr_measure) (ci := 0) rfl rfl ⟨_, _, rfl⟩ (by decide +kernel) h_Dr_measure wm_2066 wm_8 wm_2387 wm_2064 wm_2065 ⟨by decide, by decide, by decide +kernel⟩ (by decide), List.forall_mem_cons.mpr ⟨cl_virtual (y := y_Ho_drawLine) (ci := 12) rfl rfl ⟨_, _, rfl⟩ (by decide +kernel) h_Ho_drawLine wm_2391 wm_1 wm_2388 wm_2390 wv_12_6 ⟨by decide, by decide, by decide +kernel⟩ (by decide), List.forall_mem_cons.mpr ⟨cl_virtual (y := y_Dr_scaledX) (ci := 0) rfl rfl ⟨_, _, rfl⟩ (by decide +kernel) h_Dr_scaledX wm_2395 wm_8 wm_2392 wm_2393 wm_2394 ⟨by decide, by decide, by decide +kernel⟩ (by decide), List.forall_mem_cons.mpr ⟨cl_virtual (y := y_Dr_scaledY) (ci := 0) rfl rfl ⟨_, _, rfl⟩ (by decide +kernel) h_Dr_scaledY wm_2399 wm_8 wm_2396 wm_2397 wm_2398 ⟨by decide, by decide, by decide +kernel⟩ (by decide), List.forall_mem_cons.mpr ⟨cl_virtual (y := y_Ho_setDot) (ci := 12) rfl rfl ⟨_, _, rfl⟩ (by decide +kernel) h_Ho_setDot wm_2403 wm_1 wm_2400 wm_2402 wv_12_7 ⟨by decide, by decide, by decide +kernel⟩ (by decide), List.forall_mem_cons.mpr ⟨cl_static (y := y_jArr_fill1) c_jArr_fill1_v138 wm_55 wm_4 wm_1031 wm_54 ⟨by decide, by decide, by decide +kernel⟩ (by decide), List.forall_mem_nil _⟩⟩⟩⟩⟩⟩⟩, List.forall_mem_nil _, List.forall_mem_nil _⟩ (by decide +kernel)
def n_Sy_apply_an : List an_T := [(11, [(0, (2, 0, 0, [11])), (1, (2, 0, 0, [3])), (2, (2, 0, 0, [2])), (3, (2, 0, 0, [0])), (4, (0, 0, 24, []))], [], (0, 0), [(0, 0, 99989), (1, 4, 24), (0, 0, 100000)], [], [], [], 0, [], []), (51, [(0, (2, 0, 0, [11])), (1, (2, 0, 0, [3])), (2, (2, 0, 0, [2])), (3, (2, 0, 0, [0])), (4, (0, 0, 48, []))], [], (0, 0), [(0, 0, 99949), (1, 4, 48), (0, 0, 100000)], [], [], [], 0, [], [])]
def t_Sy_apply_ct : ct_L := [(1, 177, e_Sy_lookAtNode), (1, 181, e_Sy_runRules), (1, 188, e_Sy_lookAtEdge), (18, 166, e_jArr_fill1_v2)]
set_option maxRecDepth 100000 in
theorem c_Sy_apply {l : Launch} {D : va_G} {kA : Nat → ClassId} (h_Sy_lookAtEdge : ct_ok l D kA GG y_Sy_lookAtEdge z_Sy_lookAtEdge e_Sy_lookAtEdge) (h_Sy_lookAtNode : ct_ok l D kA GG y_Sy_lookAtNode z_Sy_lookAtNode e_Sy_lookAtNode) (h_Sy_runRules : ct_ok l D kA GG y_Sy_runRules z_Sy_runRules e_Sy_runRules) : ct_ok l D kA GG y_Sy_apply z_Sy_apply e_Sy_apply := chk_all_ok (FT := [(161, 0, 14), (172, 3, 0), (185, 3, 1)]) (PT := []) (CT := t_Sy_apply_ct) (KT := []) (NT := []) (AN := n_Sy_apply_an) (OT := []) 3 204 (List.forall_mem_nil _) (by decide +kernel) ⟨List.forall_mem_cons.mpr ⟨gf_Sy_161, List.forall_mem_cons.mpr ⟨gf_Sy_172, List.forall_mem_cons.mpr ⟨gf_Sy_185, List.forall_mem_nil _⟩⟩⟩, List.forall_mem_nil _, List.forall_mem_cons.mpr ⟨cl_virtual (y := y_Sy_lookAtNode) (ci := 11) rfl rfl ⟨_, _, rfl⟩ (by decide +kernel) h_Sy_lookAtNode wm_2290 wm_23 wm_2287 wm_2289 wv_11_8 ⟨by decide, by decide, by decide +kernel⟩ (by decide), List.forall_mem_cons.mpr ⟨cl_virtual (y := y_Sy_runRules) (ci := 11) rfl rfl ⟨_, _, rfl⟩ (by decide +kernel) h_Sy_runRules wm_2296 wm_23 wm_2293 wm_2295 wv_11_9 ⟨by decide, by decide, by decide +kernel⟩ (by decide), List.forall_mem_cons.mpr ⟨cl_virtual (y := y_Sy_lookAtEdge) (ci := 11) rfl rfl ⟨_, _, rfl⟩ (by decide +kernel) h_Sy_lookAtEdge wm_2320 wm_23 wm_2317 wm_2319 wv_11_13 ⟨by decide, by decide, by decide +kernel⟩ (by decide), List.forall_mem_cons.mpr ⟨cl_static (y := y_jArr_fill1) c_jArr_fill1_v2 wm_55 wm_4 wm_2286 wm_54 ⟨by decide, by decide, by decide +kernel⟩ (by decide), List.forall_mem_nil _⟩⟩⟩⟩, List.forall_mem_nil _, List.forall_mem_nil _⟩ (by decide +kernel)
def n_Mo_meets_an : List an_T := [(210, [(0, (2, 0, 0, [150])), (1, (0, 0, 47, [])), (2, (0, 0, 24, [])), (3, (0, 0, 47, [])), (4, (0, 0, 24, [])), (5, (1, -2147483648, 2147483647, [])), (7, (1, -2147483648, 2147483647, [])), (9, (1, -2147483648, 2147483647, [])), (11, (1, -2147483648, 2147483647, [])), (13, (1, -2147483648, 2147483647, [])), (15, (1, -2147483648, 2147483647, [])), (17, (1, -2147483648, 2147483647, [])), (19, (1, -2147483648, 2147483647, [])), (21, (0, -1, 1, [])), (22, (0, -1, 1, [])), (23, (0, -1, 1, [])), (24, (0, -1, 1, []))], [(0, 0, 1, [])], (0, 0), [(0, 0, 99790)], [], [], [], 0, [], []), (211, [(0, (2, 0, 0, [150])), (1, (0, 0, 47, [])), (2, (0, 0, 24, [])), (3, (0, 0, 47, [])), (4, (0, 0, 24, [])), (5, (1, -2147483648, 2147483647, [])), (7, (1, -2147483648, 2147483647, [])), (9, (1, -2147483648, 2147483647, [])), (11, (1, -2147483648, 2147483647, [])), (13, (1, -2147483648, 2147483647, [])), (15, (1, -2147483648, 2147483647, [])), (17, (1, -2147483648, 2147483647, [])), (19, (1, -2147483648, 2147483647, [])), (21, (0, -1, 1, [])), (22, (0, -1, 1, [])), (23, (0, -1, 1, [])), (24, (0, -1, 1, []))], [], (0, 0), [(0, 0, 99789)], [], [], [], 0, [], []), (246, [(0, (2, 0, 0, [150])), (1, (0, 0, 47, [])), (2, (0, 0, 24, [])), (3, (0, 0, 47, [])), (4, (0, 0, 24, [])), (5, (1, -2147483648, 2147483647, [])), (7, (1, -2147483648, 2147483647, [])), (9, (1, -2147483648, 2147483647, [])), (11, (1, -2147483648, 2147483647, [])), (13, (1, -2147483648, 2147483647, [])), (15, (1, -2147483648, 2147483647, [])), (17, (1, -2147483648, 2147483647, [])), (19, (1, -2147483648, 2147483647, [])), (21, (0, -1, 1, [])), (22, (0, -1, 1, [])), (23, (0, -1, 1, [])), (24, (0, -1, 1, []))], [], (0, 0), [(0, 0, 99754)], [], [], [], 0, [], []), (247, [(0, (2, 0, 0, [150])), (1, (0, 0, 47, [])), (2, (0, 0, 24, [])), (3, (0, 0, 47, [])), (4, (0, 0, 24, [])), (5, (1, -2147483648, 2147483647, [])), (7, (1, -2147483648, 2147483647, [])), (9, (1, -2147483648, 2147483647, [])), (11, (1, -2147483648, 2147483647, [])), (13, (1, -2147483648, 2147483647, [])), (15, (1, -2147483648, 2147483647, [])), (17, (1, -2147483648, 2147483647, [])), (19, (1, -2147483648, 2147483647, [])), (21, (0, -1, 1, [])), (22, (0, -1, 1, [])), (23, (0, -1, 1, [])), (24, (0, -1, 1, []))], [(0, 0, 1, [])], (0, 0), [(0, 0, 99753)], [], [], [], 0, [], []), (284, [(0, (2, 0, 0, [150])), (1, (0, 0, 47, [])), (2, (0, 0, 24, [])), (3, (0, 0, 47, [])), (4, (0, 0, 24, [])), (5, (1, -2147483648, 2147483647, [])), (7, (1, -2147483648, 2147483647, [])), (9, (1, -2147483648, 2147483647, [])), (11, (1, -2147483648, 2147483647, [])), (13, (1, -2147483648, 2147483647, [])), (15, (1, -2147483648, 2147483647, [])), (17, (1, -2147483648, 2147483647, [])), (19, (1, -2147483648, 2147483647, [])), (21, (0, -1, 1, [])), (22, (0, -1, 1, [])), (23, (0, -1, 1, [])), (24, (0, -1, 1, [])), (25, (0, 0, 1, []))], [], (0, 0), [(0, 0, 99716)], [], [], [], 0, [], []), (285, [(0, (2, 0, 0, [150])), (1, (0, 0, 47, [])), (2, (0, 0, 24, [])), (3, (0, 0, 47, [])), (4, (0, 0, 24, [])), (5, (1, -2147483648, 2147483647, [])), (7, (1, -2147483648, 2147483647, [])), (9, (1, -2147483648, 2147483647, [])), (11, (1, -2147483648, 2147483647, [])), (13, (1, -2147483648, 2147483647, [])), (15, (1, -2147483648, 2147483647, [])), (17, (1, -2147483648, 2147483647, [])), (19, (1, -2147483648, 2147483647, [])), (21, (0, -1, 1, [])), (22, (0, -1, 1, [])), (23, (0, -1, 1, [])), (24, (0, -1, 1, [])), (25, (0, 0, 1, []))], [(0, 0, 1, [])], (0, 0), [(0, 0, 99715)], [], [], [], 0, [], []), (322, [(0, (2, 0, 0, [150])), (1, (0, 0, 47, [])), (2, (0, 0, 24, [])), (3, (0, 0, 47, [])), (4, (0, 0, 24, [])), (5, (1, -2147483648, 2147483647, [])), (7, (1, -2147483648, 2147483647, [])), (9, (1, -2147483648, 2147483647, [])), (11, (1, -2147483648, 2147483647, [])), (13, (1, -2147483648, 2147483647, [])), (15, (1, -2147483648, 2147483647, [])), (17, (1, -2147483648, 2147483647, [])), (19, (1, -2147483648, 2147483647, [])), (21, (0, -1, 1, [])), (22, (0, -1, 1, [])), (23, (0, -1, 1, [])), (24, (0, -1, 1, [])), (25, (0, 0, 1, [])), (26, (0, 0, 1, []))], [], (0, 0), [(0, 0, 99678)], [], [], [], 0, [], []), (323, [(0, (2, 0, 0, [150])), (1, (0, 0, 47, [])), (2, (0, 0, 24, [])), (3, (0, 0, 47, [])), (4, (0, 0, 24, [])), (5, (1, -2147483648, 2147483647, [])), (7, (1, -2147483648, 2147483647, [])), (9, (1, -2147483648, 2147483647, [])), (11, (1, -2147483648, 2147483647, [])), (13, (1, -2147483648, 2147483647, [])), (15, (1, -2147483648, 2147483647, [])), (17, (1, -2147483648, 2147483647, [])), (19, (1, -2147483648, 2147483647, [])), (21, (0, -1, 1, [])), (22, (0, -1, 1, [])), (23, (0, -1, 1, [])), (24, (0, -1, 1, [])), (25, (0, 0, 1, [])), (26, (0, 0, 1, []))], [(0, 0, 1, [])], (0, 0), [(0, 0, 99677)], [], [], [], 0, [], []), (360, [(0, (2, 0, 0, [150])), (1, (0, 0, 47, [])), (2, (0, 0, 24, [])), (3, (0, 0, 47, [])), (4, (0, 0, 24, [])), (5, (1, -2147483648, 2147483647, [])), (7, (1, -2147483648, 2147483647, [])), (9, (1, -2147483648, 2147483647, [])), (11, (1, -2147483648, 2147483647, [])), (13, (1, -2147483648, 2147483647, [])), (15, (1, -2147483648, 2147483647, [])), (17, (1, -2147483648, 2147483647, [])), (19, (1, -2147483648, 2147483647, [])), (21, (0, -1, 1, [])), (22, (0, -1, 1, [])), (23, (0, -1, 1, [])), (24, (0, -1, 1, [])), (25, (0, 0, 1, [])), (26, (0, 0, 1, [])), (27, (0, 0, 1, []))], [], (0, 0), [(0, 0, 99640)], [], [], [], 0, [], []), (361, [(0, (2, 0, 0, [150])), (1, (0, 0, 47, [])), (2, (0, 0, 24, [])), (3, (0, 0, 47, [])), (4, (0, 0, 24, [])), (5, (1, -2147483648, 2147483647, [])), (7, (1, -2147483648, 2147483647, [])), (9, (1, -2147483648, 2147483647, [])), (11, (1, -2147483648, 2147483647, [])), (13, (1, -2147483648, 2147483647, [])), (15, (1, -2147483648, 2147483647, [])), (17, (1, -2147483648, 2147483647, [])), (19, (1, -2147483648, 2147483647, [])), (21, (0, -1, 1, [])), (22, (0, -1, 1, [])), (23, (0, -1, 1, [])), (24, (0, -1, 1, [])), (25, (0, 0, 1, [])), (26, (0, 0, 1, [])), (27, (0, 0, 1, []))], [(0, 0, 1, [])], (0, 0), [(0, 0, 99639)], [], [], [], 0, [], []), (383, [(0, (2, 0, 0, [150])), (1, (0, 0, 47, [])), (2, (0, 0, 24, [])), (3, (0, 0, 47, [])), (4, (0, 0, 24, [])), (5, (1, -2147483648, 2147483647, [])), (7, (1, -2147483648, 2147483647, [])), (9, (1, -2147483648, 2147483647, [])), (11, (1, -2147483648, 2147483647, [])), (13, (1, -2147483648, 2147483647, [])), (15, (1, -2147483648, 2147483647, [])), (17, (1, -2147483648, 2147483647, [])), (19, (1, -2147483648, 2147483647, [])), (21, (0, -1, 1, [])), (22, (0, -1, 1, [])), (23, (0, -1, 1, [])), (24, (0, -1, 1, [])), (25, (0, 0, 1, [])), (26, (0, 0, 1, [])), (27, (0, 0, 1, [])), (28, (0, 0, 1, []))], [], (0, 0), [(0, 0, 99617)], [], [], [], 0, [], [])]
def t_Mo_meets_ct : ct_L := [(0, 1115, e_Mo_isLonger), (1, 1103, e_Mo_crossAtShared), (1, 1111, e_Mo_isShared), (13, 1085, e_Mo_ex_np), (40, 1088, e_Mo_ey_np), (73, 1085, e_Mo_ex_np), (106, 1088, e_Mo_ey_np), (136, 1085, e_Mo_ex_np), (166, 1088, e_Mo_ey_np), (202, 1085, e_Mo_ex_np), (238, 1088, e_Mo_ey_np), (291, 1091, e_Mo_turnOf_np), (300, 1099, e_Mo_signOf_np), (351, 1091, e_Mo_turnOf_np), (360, 1099, e_Mo_signOf_np), (411, 1091, e_Mo_turnOf_np), (420, 1099, e_Mo_signOf_np), (471, 1091, e_Mo_turnOf_np), (480, 1099, e_Mo_signOf_np), (672, 1107, e_Mo_isOn_np), (786, 1107, e_Mo_isOn_np), (900, 1107, e_Mo_isOn_np), (1014, 1107, e_Mo_isOn_np)]
set_option maxRecDepth 100000 in
theorem c_Mo_meets {l : Launch} {D : va_G} {kA : Nat → ClassId} (h_Mo_crossAtShared : ct_ok l D kA GG y_Mo_crossAtShared z_Mo_crossAtShared e_Mo_crossAtShared) (h_Mo_ex : ct_ok l D kA GG y_Mo_ex z_Mo_ex e_Mo_ex) (h_Mo_ey : ct_ok l D kA GG y_Mo_ey z_Mo_ey e_Mo_ey) (h_Mo_isLonger : ct_ok l D kA GG y_Mo_isLonger z_Mo_isLonger e_Mo_isLonger) (h_Mo_isOn : ct_ok l D kA GG y_Mo_isOn z_Mo_isOn e_Mo_isOn) (h_Mo_isShared : ct_ok l D kA GG y_Mo_isShared z_Mo_isShared e_Mo_isShared) (h_Mo_signOf : ct_ok l D kA GG y_Mo_signOf z_Mo_signOf e_Mo_signOf) (h_Mo_turnOf : ct_ok l D kA GG y_Mo_turnOf z_Mo_turnOf e_Mo_turnOf) : ct_ok l D kA GG y_Mo_meets z_Mo_meets e_Mo_meets := chk_all_ok (FT := []) (PT := []) (CT := t_Mo_meets_ct) (KT := []) (NT := []) (AN := n_Mo_meets_an) (OT := []) 1 852 (List.forall_mem_nil _) (by decide +kernel) ⟨List.forall_mem_nil _, List.forall_mem_nil _, List.forall_mem_cons.mpr ⟨cl_static (y := y_Mo_isLonger) h_Mo_isLonger wm_3764 wm_9 wm_3762 wm_3763 ⟨by decide, by decide, by decide +kernel⟩ (by decide), List.forall_mem_cons.mpr ⟨cl_virtual (y := y_Mo_crossAtShared) (ci := 13) rfl rfl ⟨_, _, rfl⟩ (by decide +kernel) h_Mo_crossAtShared wm_3752 wm_9 wm_3749 wm_3751 wv_22_12 ⟨by decide, by decide, by decide +kernel⟩ (by decide), List.forall_mem_cons.mpr ⟨cl_virtual (y := y_Mo_isShared) (ci := 13) rfl rfl ⟨_, _, rfl⟩ (by decide +kernel) h_Mo_isShared wm_3761 wm_9 wm_3758 wm_3760 wv_22_13 ⟨by decide, by decide, by decide +kernel⟩ (by decide), List.forall_mem_cons.mpr ⟨cl_nopa (cl_virtual (y := y_Mo_ex) (ci := 13) rfl rfl ⟨_, _, rfl⟩ (by decide +kernel) h_Mo_ex wm_3730 wm_9 wm_3727 wm_3729 wv_22_9 ⟨by decide, by decide, by decide +kernel⟩ (by decide)), List.forall_mem_cons.mpr ⟨cl_nopa (cl_virtual (y := y_Mo_ey) (ci := 13) rfl rfl ⟨_, _, rfl⟩ (by decide +kernel) h_Mo_ey wm_3734 wm_9 wm_3731 wm_3733 wv_22_10 ⟨by decide, by decide, by decide +kernel⟩ (by decide)), List.forall_mem_cons.mpr ⟨cl_nopa (cl_virtual (y := y_Mo_ex) (ci := 13) rfl rfl ⟨_, _, rfl⟩ (by decide +kernel) h_Mo_ex wm_3730 wm_9 wm_3727 wm_3729 wv_22_9 ⟨by decide, by decide, by decide +kernel⟩ (by decide)), List.forall_mem_cons.mpr ⟨cl_nopa (cl_virtual (y := y_Mo_ey) (ci := 13) rfl rfl ⟨_, _, rfl⟩ (by decide +kernel) h_Mo_ey wm_3734 wm_9 wm_3731 wm_3733 wv_22_10 ⟨by decide, by decide, by decide +kernel⟩ (by decide)), List.forall_mem_cons.mpr ⟨cl_nopa (cl_virtual (y := y_Mo_ex) (ci := 13) rfl rfl ⟨_, _, rfl⟩ (by decide +kernel) h_Mo_ex wm_3730 wm_9 wm_3727 wm_3729 wv_22_9 ⟨by decide, by decide, by decide +kernel⟩ (by decide)), List.forall_mem_cons.mpr ⟨cl_nopa (cl_virtual (y := y_Mo_ey) (ci := 13) rfl rfl ⟨_, _, rfl⟩ (by decide +kernel) h_Mo_ey wm_3734 wm_9 wm_3731 wm_3733 wv_22_10 ⟨by decide, by decide, by decide +kernel⟩ (by decide)), List.forall_mem_cons.mpr ⟨cl_nopa (cl_virtual (y := y_Mo_ex) (ci := 13) rfl rfl ⟨_, _, rfl⟩ (by decide +kernel) h_Mo_ex wm_3730 wm_9 wm_3727 wm_3729 wv_22_9 ⟨by decide, by decide, by decide +kernel⟩ (by decide)), List.forall_mem_cons.mpr ⟨cl_nopa (cl_virtual (y := y_Mo_ey) (ci := 13) rfl rfl ⟨_, _, rfl⟩ (by decide +kernel) h_Mo_ey wm_3734 wm_9 wm_3731 wm_3733 wv_22_10 ⟨by decide, by decide, by decide +kernel⟩ (by decide)), List.forall_mem_cons.mpr ⟨cl_nopa (cl_static (y := y_Mo_turnOf) h_Mo_turnOf wm_3745 wm_9 wm_3743 wm_3744 ⟨by decide, by decide, by decide +kernel⟩ (by decide)), List.forall_mem_cons.mpr ⟨cl_nopa (cl_static (y := y_Mo_signOf) h_Mo_signOf wm_3748 wm_9 wm_3746 wm_3747 ⟨by decide, by decide, by decide +kernel⟩ (by decide)), List.forall_mem_cons.mpr ⟨cl_nopa (cl_static (y := y_Mo_turnOf) h_Mo_turnOf wm_3745 wm_9 wm_3743 wm_3744 ⟨by decide, by decide, by decide +kernel⟩ (by decide)), List.forall_mem_cons.mpr ⟨cl_nopa (cl_static (y := y_Mo_signOf) h_Mo_signOf wm_3748 wm_9 wm_3746 wm_3747 ⟨by decide, by decide, by decide +kernel⟩ (by decide)), List.forall_mem_cons.mpr ⟨cl_nopa (cl_static (y := y_Mo_turnOf) h_Mo_turnOf wm_3745 wm_9 wm_3743 wm_3744 ⟨by decide, by decide, by decide +kernel⟩ (by decide)), List.forall_mem_cons.mpr ⟨cl_nopa (cl_static (y := y_Mo_signOf) h_Mo_signOf wm_3748 wm_9 wm_3746 wm_3747 ⟨by decide, by decide, by decide +kernel⟩ (by decide)), List.forall_mem_cons.mpr ⟨cl_nopa (cl_static (y := y_Mo_turnOf) h_Mo_turnOf wm_3745 wm_9 wm_3743 wm_3744 ⟨by decide, by decide, by decide +kernel⟩ (by decide)), List.forall_mem_cons.mpr ⟨cl_nopa (cl_static (y := y_Mo_signOf) h_Mo_signOf wm_3748 wm_9 wm_3746 wm_3747 ⟨by decide, by decide, by decide +kernel⟩ (by decide)), List.forall_mem_cons.mpr ⟨cl_nopa (cl_static (y := y_Mo_isOn) h_Mo_isOn wm_3755 wm_9 wm_3753 wm_3754 ⟨by decide, by decide, by decide +kernel⟩ (by decide)), List.forall_mem_cons.mpr ⟨cl_nopa (cl_static (y := y_Mo_isOn) h_Mo_isOn wm_3755 wm_9 wm_3753 wm_3754 ⟨by decide, by decide, by decide +kernel⟩ (by decide)), List.forall_mem_cons.mpr ⟨cl_nopa (cl_static (y := y_Mo_isOn) h_Mo_isOn wm_3755 wm_9 wm_3753 wm_3754 ⟨by decide, by decide, by decide +kernel⟩ (by decide)), List.forall_mem_cons.mpr ⟨cl_nopa (cl_static (y := y_Mo_isOn) h_Mo_isOn wm_3755 wm_9 wm_3753 wm_3754 ⟨by decide, by decide, by decide +kernel⟩ (by decide)), List.forall_mem_nil _⟩⟩⟩⟩⟩⟩⟩⟩⟩⟩⟩⟩⟩⟩⟩⟩⟩⟩⟩⟩⟩⟩⟩, List.forall_mem_nil _, List.forall_mem_nil _⟩ (by decide +kernel)
def n_Re_readValue_an : List an_T := []
def t_Re_readValue_ct : ct_L := [(1, 57, e_Re_advance), (1, 95, e_Re_isWord), (1, 113, e_Re_fail)]
set_option maxRecDepth 100000 in
theorem c_Re_readValue {l : Launch} {D : va_G} {kA : Nat → ClassId} (h_Re_advance : ct_ok l D kA GG y_Re_advance z_Re_advance e_Re_advance) (h_Re_fail : ct_ok l D kA GG y_Re_fail z_Re_fail e_Re_fail) (h_Re_isWord : ct_ok l D kA GG y_Re_isWord z_Re_isWord e_Re_isWord) : ct_ok l D kA GG y_Re_readValue z_Re_readValue e_Re_readValue := chk_all_ok (FT := [(38, 8, 7), (44, 8, 9)]) (PT := []) (CT := t_Re_readValue_ct) (KT := []) (NT := []) (AN := n_Re_readValue_an) (OT := []) 0 308 (List.forall_mem_nil _) (by decide +kernel) ⟨List.forall_mem_cons.mpr ⟨gf_Re_38, List.forall_mem_cons.mpr ⟨gf_Re_44, List.forall_mem_nil _⟩⟩, List.forall_mem_nil _, List.forall_mem_cons.mpr ⟨cl_virtual (y := y_Re_advance) (ci := 8) rfl rfl ⟨_, _, rfl⟩ (by decide +kernel) h_Re_advance wm_645 wm_2 wm_642 wm_644 wv_1_0 ⟨by decide, by decide, by decide +kernel⟩ (by decide), List.forall_mem_cons.mpr ⟨cl_virtual (y := y_Re_isWord) (ci := 8) rfl rfl ⟨_, _, rfl⟩ (by decide +kernel) h_Re_isWord wm_670 wm_2 wm_667 wm_669 wv_1_2 ⟨by decide, by decide, by decide +kernel⟩ (by decide), List.forall_mem_cons.mpr ⟨cl_virtual (y := y_Re_fail) (ci := 8) rfl rfl ⟨_, _, rfl⟩ (by decide +kernel) h_Re_fail wm_731 wm_2 wm_728 wm_730 wv_1_5 ⟨by decide, by decide, by decide +kernel⟩ (by decide), List.forall_mem_nil _⟩⟩⟩, List.forall_mem_nil _, List.forall_mem_nil _⟩ (by decide +kernel)
def n_Mo_edge_an : List an_T := []
def t_Mo_edge_ct : ct_L := [(0, 387, e_Mo_in), (0, 521, e_Mo_isPlace), (1, 394, e_Mo_tail), (1, 398, e_Mo_head), (1, 401, e_Mo_edges), (1, 527, e_Mo_take), (1, 553, e_Mo_one), (1, 668, e_Mo_blocks), (1, 689, e_Mo_plane), (1, 737, e_Mo_weight), (1, 739, e_Mo_isBridge)]
set_option maxRecDepth 100000 in
theorem c_Mo_edge {l : Launch} {D : va_G} {kA : Nat → ClassId} (h_Mo_blocks : ct_ok l D kA GG y_Mo_blocks z_Mo_blocks e_Mo_blocks) (h_Mo_edges : ct_ok l D kA GG y_Mo_edges z_Mo_edges e_Mo_edges) (h_Mo_head : ct_ok l D kA GG y_Mo_head z_Mo_head e_Mo_head) (h_Mo_in : ct_ok l D kA GG y_Mo_in z_Mo_in e_Mo_in) (h_Mo_isBridge : ct_ok l D kA GG y_Mo_isBridge z_Mo_isBridge e_Mo_isBridge) (h_Mo_isPlace : ct_ok l D kA GG y_Mo_isPlace z_Mo_isPlace e_Mo_isPlace) (h_Mo_one : ct_ok l D kA GG y_Mo_one z_Mo_one e_Mo_one) (h_Mo_plane : ct_ok l D kA GG y_Mo_plane z_Mo_plane e_Mo_plane) (h_Mo_tail : ct_ok l D kA GG y_Mo_tail z_Mo_tail e_Mo_tail) (h_Mo_take : ct_ok l D kA GG y_Mo_take z_Mo_take e_Mo_take) (h_Mo_weight : ct_ok l D kA GG y_Mo_weight z_Mo_weight e_Mo_weight) : ct_ok l D kA GG y_Mo_edge z_Mo_edge e_Mo_edge := chk_all_ok (FT := [(32, 13, 17)]) (PT := []) (CT := t_Mo_edge_ct) (KT := []) (NT := []) (AN := n_Mo_edge_an) (OT := []) 0 328 (List.forall_mem_nil _) (by decide +kernel) ⟨List.forall_mem_cons.mpr ⟨gf_Mo_32, List.forall_mem_nil _⟩, List.forall_mem_nil _, List.forall_mem_cons.mpr ⟨cl_static (y := y_Mo_in) h_Mo_in wm_2971 wm_9 wm_2969 wm_2970 ⟨by decide, by decide, by decide +kernel⟩ (by decide), List.forall_mem_cons.mpr ⟨cl_static (y := y_Mo_isPlace) h_Mo_isPlace wm_2978 wm_9 wm_2976 wm_2977 ⟨by decide, by decide, by decide +kernel⟩ (by decide), List.forall_mem_cons.mpr ⟨cl_virtual (y := y_Mo_tail) (ci := 13) rfl rfl ⟨_, _, rfl⟩ (by decide +kernel) h_Mo_tail wm_3045 wm_9 wm_3042 wm_3044 wv_13_8 ⟨by decide, by decide, by decide +kernel⟩ (by decide), List.forall_mem_cons.mpr ⟨cl_virtual (y := y_Mo_head) (ci := 13) rfl rfl ⟨_, _, rfl⟩ (by decide +kernel) h_Mo_head wm_3049 wm_9 wm_3046 wm_3048 wv_13_9 ⟨by decide, by decide, by decide +kernel⟩ (by decide), List.forall_mem_cons.mpr ⟨cl_virtual (y := y_Mo_edges) (ci := 13) rfl rfl ⟨_, _, rfl⟩ (by decide +kernel) h_Mo_edges wm_3037 wm_9 wm_3034 wm_3036 wv_13_6 ⟨by decide, by decide, by decide +kernel⟩ (by decide), List.forall_mem_cons.mpr ⟨cl_virtual (y := y_Mo_take) (ci := 13) rfl rfl ⟨_, _, rfl⟩ (by decide +kernel) h_Mo_take wm_3091 wm_9 wm_3088 wm_3090 wv_14_2 ⟨by decide, by decide, by decide +kernel⟩ (by decide), List.forall_mem_cons.mpr ⟨cl_virtual (y := y_Mo_one) (ci := 13) rfl rfl ⟨_, _, rfl⟩ (by decide +kernel) h_Mo_one wm_3299 wm_9 wm_3296 wm_3298 wv_16_15 ⟨by decide, by decide, by decide +kernel⟩ (by decide), List.forall_mem_cons.mpr ⟨cl_virtual (y := y_Mo_blocks) (ci := 13) rfl rfl ⟨_, _, rfl⟩ (by decide +kernel) h_Mo_blocks wm_3155 wm_9 wm_3152 wm_3154 wv_14_14 ⟨by decide, by decide, by decide +kernel⟩ (by decide), List.forall_mem_cons.mpr ⟨cl_virtual (y := y_Mo_plane) (ci := 13) rfl rfl ⟨_, _, rfl⟩ (by decide +kernel) h_Mo_plane wm_3147 wm_9 wm_3144 wm_3146 wv_14_12 ⟨by decide, by decide, by decide +kernel⟩ (by decide), List.forall_mem_cons.mpr ⟨cl_virtual (y := y_Mo_weight) (ci := 13) rfl rfl ⟨_, _, rfl⟩ (by decide +kernel) h_Mo_weight wm_3339 wm_9 wm_3336 wm_3338 wv_17_7 ⟨by decide, by decide, by decide +kernel⟩ (by decide), List.forall_mem_cons.mpr ⟨cl_virtual (y := y_Mo_isBridge) (ci := 13) rfl rfl ⟨_, _, rfl⟩ (by decide +kernel) h_Mo_isBridge wm_3343 wm_9 wm_3340 wm_3342 wv_17_8 ⟨by decide, by decide, by decide +kernel⟩ (by decide), List.forall_mem_nil _⟩⟩⟩⟩⟩⟩⟩⟩⟩⟩⟩, List.forall_mem_nil _, List.forall_mem_nil _⟩ (by decide +kernel)
def o_Mo_label_0 : or_T := (52, 17, [(0, (2, 0, 0, [150])), (6, (0, 0, 48, [])), (15, (0, 0, 0, [])), (16, (0, 0, 0, []))], [(20, [6, 0], [30, 0, 1, 0, 0, -1, 3, 2005001]), (20, [6, 0], [30, 0, -1, 0, 0, 1, 3, 2005001]), (101, [0, 15], [150]), (20, [6, 0], [30, 0, 1, 0, 0, -1, 3, 2005001]), (20, [6, 0], [30, 0, -1, 0, 0, 1, 3, 2005001])], [], [], [(20, [0, 16], [30, 0, 1, 1, 150, -1, 0, 0])], [], [])
theorem oo_Mo_label_0 {kA : Nat → ClassId} : or_ok kA GG o_Mo_label_0 := by
  intro A ta ws vs hD hth hl hk hds hf
  have hl : vs.length = 17 := hl
  have hk : ∀ q ∈ ([(0, (2, 0, 0, [150])), (6, (0, 0, 48, [])), (15, (0, 0, 0, [])), (16, (0, 0, 0, []))] : List (Nat × tv_T)), tv_ok ta q.2 (n_v vs q.1) := hk
  obtain ⟨t0, hk⟩ := List.forall_mem_cons.mp hk
  have t0 : tv_ok ta (2, 0, 0, [150]) (n_v vs 0) := t0
  have r0 : ta (v_ad (n_v vs 0)) = some 150 := tv_rg t0
  obtain ⟨t6, hk⟩ := List.forall_mem_cons.mp hk
  have t6 : tv_ok ta (0, 0, 48, []) (n_v vs 6) := t6
  have k6 : 0 ≤ v_iv (n_v vs 6) ∧ v_iv (n_v vs 6) ≤ 48 := tv_rng t6
  obtain ⟨t15, hk⟩ := List.forall_mem_cons.mp hk
  have t15 : tv_ok ta (0, 0, 0, []) (n_v vs 15) := t15
  have k15 : 0 ≤ v_iv (n_v vs 15) ∧ v_iv (n_v vs 15) ≤ 0 := tv_rng t15
  obtain ⟨t16, hk⟩ := List.forall_mem_cons.mp hk
  have t16 : tv_ok ta (0, 0, 0, []) (n_v vs 16) := t16
  have k16 : 0 ≤ v_iv (n_v vs 16) ∧ v_iv (n_v vs 16) ≤ 0 := tv_rng t16
  have hf : fc_ok [(20, [6, 0], [30, 0, 1, 0, 0, -1, 3, 2005001]), (20, [6, 0], [30, 0, -1, 0, 0, 1, 3, 2005001]), (101, [0, 15], [150]), (20, [6, 0], [30, 0, 1, 0, 0, -1, 3, 2005001]), (20, [6, 0], [30, 0, -1, 0, 0, 1, 3, 2005001])] ta ws vs := hf
  obtain ⟨f0, hf⟩ := fc_un (by decide) hf
  have f0 : 1 * v_iv (n_v vs 6) + ((-1) * w_el ws (w_ar ws (n_v vs 0) 2) (w_fi ws (n_v vs 0) 5 + 1).toNat + 0) ≤ 0 := f0
  obtain ⟨f1, hf⟩ := fc_un (by decide) hf
  have f1 : (-1) * v_iv (n_v vs 6) + (1 * w_el ws (w_ar ws (n_v vs 0) 2) (w_fi ws (n_v vs 0) 5 + 1).toNat + 0) ≤ 0 := f1
  obtain ⟨ta1, w1, le1, ⟨_, s1⟩, hf⟩ := fc_us (by decide) hf
  have s1 : (∀ b j, w_el ws b j = w_el w1 b j) ∧ ∀ b j, w_fd ws b j = if b = v_ad (n_v vs 0) ∧ j = 150 then n_v vs 15 else w_fd w1 b j := s1
  obtain ⟨f3, hf⟩ := fc_un (by decide) hf
  have f3 : 1 * v_iv (n_v vs 6) + ((-1) * w_el w1 (w_ar w1 (n_v vs 0) 2) (w_fi w1 (n_v vs 0) 5 + 1).toNat + 0) ≤ 0 := f3
  obtain ⟨f4, hf⟩ := fc_un (by decide) hf
  have f4 : (-1) * v_iv (n_v vs 6) + (1 * w_el w1 (w_ar w1 (n_v vs 0) 2) (w_fi w1 (n_v vs 0) 5 + 1).toNat + 0) ≤ 0 := f4
  have ar_0_2_1 : w_ar w1 (n_v vs 0) 2 = w_ar ws (n_v vs 0) 2 := by show v_ad (w_fd w1 _ _) = v_ad (w_fd ws _ _); rw [s1.2, if_neg (fun e => absurd e.2 (by decide))]
  have cr_0_2 : ta (w_ar ws (n_v vs 0) 2) = some 152 := tv_rg (th_fd hD hth r0 (g := GG_150) rfl (k := 2) (t := (2, 0, 0, [152])) rfl rfl)
  have fi_0_5_1 : w_fi w1 (n_v vs 0) 5 = w_fi ws (n_v vs 0) 5 := by show v_iv (w_fd w1 _ _) = v_iv (w_fd ws _ _); rw [s1.2, if_neg (fun e => absurd e.2 (by decide))]
  rw [ar_0_2_1] at f3
  rw [fi_0_5_1] at f3
  rw [ar_0_2_1] at f4
  rw [fi_0_5_1] at f4
  have fe_0_5_1 : w_fi ws (n_v vs 0) 5 = w_fi w1 (n_v vs 0) 5 := by show v_iv (w_fd _ _ _) = v_iv (w_fd _ _ _); rw [s1.2, if_neg (fun e => absurd e.2 (by decide))]
  have fe_0_150_1 : w_fi ws (n_v vs 0) 150 = v_iv (n_v vs 15) := by show v_iv (w_fd _ _ _) = _; rw [s1.2, if_pos ⟨rfl, rfl⟩]
  have ee_0_2_F5_1_1 : w_el ws (w_ar ws (n_v vs 0) 2) (w_fi ws (n_v vs 0) 5 + 1).toNat = w_el w1 (w_ar ws (n_v vs 0) 2) (w_fi ws (n_v vs 0) 5 + 1).toNat := s1.1 _ _
  have nf0 : fc_1 (20, [0, 16], [30, 0, 1, 1, 150, -1, 0, 0]) ws (vs) := by
    refine ⟨fun n hn => ?_, ?_⟩
    · have hn : n ∈ [0, 16] := hn
      rw [hl]
      simp only [List.mem_cons, List.not_mem_nil, or_false] at hn
      show n < 17; omega
    · show 1 * w_fi ws (n_v vs 0) 150 + ((-1) * v_iv (n_v vs 16) + 0) ≤ 0
      omega
  refine ⟨(fun _ h => (by cases h)), [], trivial, ?_, (fun _ h => (by cases h))⟩
  rw [List.append_nil]
  exact List.forall_mem_cons.mpr ⟨⟨by decide, nf0⟩, (fun _ h => (by cases h))⟩
def o_Mo_label_1 : or_T := (95, 6, [(0, (2, 0, 0, [150])), (2, (0, 0, 47, [])), (4, (0, 0, 47, []))], [(7, [4, 2], [3]), (20, [0, 4], [30, 0, 1, 1, 150, -1, 0, 0])], [], [], [(20, [0], [30, 47, 1, 1, 150])], [], [(4, 2, 0, 4294967296), (2, 4, -4294967296, 47), (4, 2, -4294967296, 0)])
theorem oo_Mo_label_1 {kA : Nat → ClassId} : or_ok kA GG o_Mo_label_1 := by
  intro A ta ws vs hD hth hl hk hds hf
  have hl : vs.length = 6 := hl
  have hk : ∀ q ∈ ([(0, (2, 0, 0, [150])), (2, (0, 0, 47, [])), (4, (0, 0, 47, []))] : List (Nat × tv_T)), tv_ok ta q.2 (n_v vs q.1) := hk
  obtain ⟨t0, hk⟩ := List.forall_mem_cons.mp hk
  have t0 : tv_ok ta (2, 0, 0, [150]) (n_v vs 0) := t0
  have r0 : ta (v_ad (n_v vs 0)) = some 150 := tv_rg t0
  obtain ⟨t2, hk⟩ := List.forall_mem_cons.mp hk
  have t2 : tv_ok ta (0, 0, 47, []) (n_v vs 2) := t2
  have k2 : 0 ≤ v_iv (n_v vs 2) ∧ v_iv (n_v vs 2) ≤ 47 := tv_rng t2
  obtain ⟨t4, hk⟩ := List.forall_mem_cons.mp hk
  have t4 : tv_ok ta (0, 0, 47, []) (n_v vs 4) := t4
  have k4 : 0 ≤ v_iv (n_v vs 4) ∧ v_iv (n_v vs 4) ≤ 47 := tv_rng t4
  have hds : ∀ q ∈ ([(4, 2, 0, 4294967296), (2, 4, -4294967296, 47), (4, 2, -4294967296, 0)] : List of_T), n_iv vs q.2.1 + q.2.2.1 ≤ n_iv vs q.1 ∧ n_iv vs q.1 ≤ n_iv vs q.2.1 + q.2.2.2 := hds
  obtain ⟨d0, hds⟩ := List.forall_mem_cons.mp hds
  have d0 : v_iv (n_v vs 2) + 0 ≤ v_iv (n_v vs 4) ∧ v_iv (n_v vs 4) ≤ v_iv (n_v vs 2) + 4294967296 := d0
  obtain ⟨d1, hds⟩ := List.forall_mem_cons.mp hds
  have d1 : v_iv (n_v vs 4) + (-4294967296) ≤ v_iv (n_v vs 2) ∧ v_iv (n_v vs 2) ≤ v_iv (n_v vs 4) + 47 := d1
  obtain ⟨d2, hds⟩ := List.forall_mem_cons.mp hds
  have d2 : v_iv (n_v vs 2) + (-4294967296) ≤ v_iv (n_v vs 4) ∧ v_iv (n_v vs 4) ≤ v_iv (n_v vs 2) + 0 := d2
  have hf : fc_ok [(7, [4, 2], [3]), (20, [0, 4], [30, 0, 1, 1, 150, -1, 0, 0])] ta ws vs := hf
  obtain ⟨f0, hf⟩ := fc_un (by decide) hf
  have f0 : v_iv (n_v vs 2) ≤ v_iv (n_v vs 4) := f0
  obtain ⟨f1, hf⟩ := fc_un (by decide) hf
  have f1 : 1 * w_fi ws (n_v vs 0) 150 + ((-1) * v_iv (n_v vs 4) + 0) ≤ 0 := f1
  have nf0 : fc_1 (20, [0], [30, 47, 1, 1, 150]) ws (vs) := by
    refine ⟨fun n hn => ?_, ?_⟩
    · have hn : n ∈ [0] := hn
      rw [hl]
      simp only [List.mem_cons, List.not_mem_nil, or_false] at hn
      show n < 6; omega
    · show 1 * w_fi ws (n_v vs 0) 150 + 0 ≤ 47
      omega
  refine ⟨(fun _ h => (by cases h)), [], trivial, ?_, (fun _ h => (by cases h))⟩
  rw [List.append_nil]
  exact List.forall_mem_cons.mpr ⟨⟨by decide, nf0⟩, (fun _ h => (by cases h))⟩
def o_Mo_label_2 : or_T := (52, 9, [(0, (2, 0, 0, [150])), (2, (0, 1, 47, [])), (4, (0, 0, 46, [])), (8, (0, 1, 47, []))], [(6, [8, 4], [1]), (7, [4, 2], [2]), (20, [0, 4], [30, 0, 1, 1, 150, -1, 0, 0])], [], [], [(20, [0, 8], [30, 0, 1, 1, 150, -1, 0, 0])], [], [(8, 4, 1, 1), (8, 2, -4294967296, 0), (8, 2, -4294967296, 1), (4, 2, -4294967296, -1), (2, 4, -4294967296, 47), (4, 2, -4294967296, 0)])
theorem oo_Mo_label_2 {kA : Nat → ClassId} : or_ok kA GG o_Mo_label_2 := by
  intro A ta ws vs hD hth hl hk hds hf
  have hl : vs.length = 9 := hl
  have hk : ∀ q ∈ ([(0, (2, 0, 0, [150])), (2, (0, 1, 47, [])), (4, (0, 0, 46, [])), (8, (0, 1, 47, []))] : List (Nat × tv_T)), tv_ok ta q.2 (n_v vs q.1) := hk
  obtain ⟨t0, hk⟩ := List.forall_mem_cons.mp hk
  have t0 : tv_ok ta (2, 0, 0, [150]) (n_v vs 0) := t0
  have r0 : ta (v_ad (n_v vs 0)) = some 150 := tv_rg t0
  obtain ⟨t2, hk⟩ := List.forall_mem_cons.mp hk
  have t2 : tv_ok ta (0, 1, 47, []) (n_v vs 2) := t2
  have k2 : 1 ≤ v_iv (n_v vs 2) ∧ v_iv (n_v vs 2) ≤ 47 := tv_rng t2
  obtain ⟨t4, hk⟩ := List.forall_mem_cons.mp hk
  have t4 : tv_ok ta (0, 0, 46, []) (n_v vs 4) := t4
  have k4 : 0 ≤ v_iv (n_v vs 4) ∧ v_iv (n_v vs 4) ≤ 46 := tv_rng t4
  obtain ⟨t8, hk⟩ := List.forall_mem_cons.mp hk
  have t8 : tv_ok ta (0, 1, 47, []) (n_v vs 8) := t8
  have k8 : 1 ≤ v_iv (n_v vs 8) ∧ v_iv (n_v vs 8) ≤ 47 := tv_rng t8
  have hds : ∀ q ∈ ([(8, 4, 1, 1), (8, 2, -4294967296, 0), (8, 2, -4294967296, 1), (4, 2, -4294967296, -1), (2, 4, -4294967296, 47), (4, 2, -4294967296, 0)] : List of_T), n_iv vs q.2.1 + q.2.2.1 ≤ n_iv vs q.1 ∧ n_iv vs q.1 ≤ n_iv vs q.2.1 + q.2.2.2 := hds
  obtain ⟨d0, hds⟩ := List.forall_mem_cons.mp hds
  have d0 : v_iv (n_v vs 4) + 1 ≤ v_iv (n_v vs 8) ∧ v_iv (n_v vs 8) ≤ v_iv (n_v vs 4) + 1 := d0
  obtain ⟨d1, hds⟩ := List.forall_mem_cons.mp hds
  have d1 : v_iv (n_v vs 2) + (-4294967296) ≤ v_iv (n_v vs 8) ∧ v_iv (n_v vs 8) ≤ v_iv (n_v vs 2) + 0 := d1
  obtain ⟨d2, hds⟩ := List.forall_mem_cons.mp hds
  have d2 : v_iv (n_v vs 2) + (-4294967296) ≤ v_iv (n_v vs 8) ∧ v_iv (n_v vs 8) ≤ v_iv (n_v vs 2) + 1 := d2
  obtain ⟨d3, hds⟩ := List.forall_mem_cons.mp hds
  have d3 : v_iv (n_v vs 2) + (-4294967296) ≤ v_iv (n_v vs 4) ∧ v_iv (n_v vs 4) ≤ v_iv (n_v vs 2) + (-1) := d3
  obtain ⟨d4, hds⟩ := List.forall_mem_cons.mp hds
  have d4 : v_iv (n_v vs 4) + (-4294967296) ≤ v_iv (n_v vs 2) ∧ v_iv (n_v vs 2) ≤ v_iv (n_v vs 4) + 47 := d4
  obtain ⟨d5, hds⟩ := List.forall_mem_cons.mp hds
  have d5 : v_iv (n_v vs 2) + (-4294967296) ≤ v_iv (n_v vs 4) ∧ v_iv (n_v vs 4) ≤ v_iv (n_v vs 2) + 0 := d5
  have hf : fc_ok [(6, [8, 4], [1]), (7, [4, 2], [2]), (20, [0, 4], [30, 0, 1, 1, 150, -1, 0, 0])] ta ws vs := hf
  obtain ⟨f0, hf⟩ := fc_un (by decide) hf
  have f0 : v_iv (n_v vs 8) = v_iv (n_v vs 4) + 1 := f0
  obtain ⟨f1, hf⟩ := fc_un (by decide) hf
  have f1 : v_iv (n_v vs 4) < v_iv (n_v vs 2) := f1
  obtain ⟨f2, hf⟩ := fc_un (by decide) hf
  have f2 : 1 * w_fi ws (n_v vs 0) 150 + ((-1) * v_iv (n_v vs 4) + 0) ≤ 0 := f2
  have nf0 : fc_1 (20, [0, 8], [30, 0, 1, 1, 150, -1, 0, 0]) ws (vs) := by
    refine ⟨fun n hn => ?_, ?_⟩
    · have hn : n ∈ [0, 8] := hn
      rw [hl]
      simp only [List.mem_cons, List.not_mem_nil, or_false] at hn
      show n < 9; omega
    · show 1 * w_fi ws (n_v vs 0) 150 + ((-1) * v_iv (n_v vs 8) + 0) ≤ 0
      omega
  refine ⟨(fun _ h => (by cases h)), [], trivial, ?_, (fun _ h => (by cases h))⟩
  rw [List.append_nil]
  exact List.forall_mem_cons.mpr ⟨⟨by decide, nf0⟩, (fun _ h => (by cases h))⟩
def o_Mo_label_3 : or_T := (71, 8, [(0, (2, 0, 0, [150])), (2, (0, 1, 47, [])), (4, (0, 0, 46, []))], [(7, [4, 2], [2]), (20, [0, 4], [30, 0, 1, 1, 150, -1, 0, 0])], [], [], [(20, [0], [30, 47, 1, 1, 150])], [], [(4, 2, -4294967296, -1), (2, 4, -4294967296, 47), (4, 2, -4294967296, 0)])
theorem oo_Mo_label_3 {kA : Nat → ClassId} : or_ok kA GG o_Mo_label_3 := by
  intro A ta ws vs hD hth hl hk hds hf
  have hl : vs.length = 8 := hl
  have hk : ∀ q ∈ ([(0, (2, 0, 0, [150])), (2, (0, 1, 47, [])), (4, (0, 0, 46, []))] : List (Nat × tv_T)), tv_ok ta q.2 (n_v vs q.1) := hk
  obtain ⟨t0, hk⟩ := List.forall_mem_cons.mp hk
  have t0 : tv_ok ta (2, 0, 0, [150]) (n_v vs 0) := t0
  have r0 : ta (v_ad (n_v vs 0)) = some 150 := tv_rg t0
  obtain ⟨t2, hk⟩ := List.forall_mem_cons.mp hk
  have t2 : tv_ok ta (0, 1, 47, []) (n_v vs 2) := t2
  have k2 : 1 ≤ v_iv (n_v vs 2) ∧ v_iv (n_v vs 2) ≤ 47 := tv_rng t2
  obtain ⟨t4, hk⟩ := List.forall_mem_cons.mp hk
  have t4 : tv_ok ta (0, 0, 46, []) (n_v vs 4) := t4
  have k4 : 0 ≤ v_iv (n_v vs 4) ∧ v_iv (n_v vs 4) ≤ 46 := tv_rng t4
  have hds : ∀ q ∈ ([(4, 2, -4294967296, -1), (2, 4, -4294967296, 47), (4, 2, -4294967296, 0)] : List of_T), n_iv vs q.2.1 + q.2.2.1 ≤ n_iv vs q.1 ∧ n_iv vs q.1 ≤ n_iv vs q.2.1 + q.2.2.2 := hds
  obtain ⟨d0, hds⟩ := List.forall_mem_cons.mp hds
  have d0 : v_iv (n_v vs 2) + (-4294967296) ≤ v_iv (n_v vs 4) ∧ v_iv (n_v vs 4) ≤ v_iv (n_v vs 2) + (-1) := d0
  obtain ⟨d1, hds⟩ := List.forall_mem_cons.mp hds
  have d1 : v_iv (n_v vs 4) + (-4294967296) ≤ v_iv (n_v vs 2) ∧ v_iv (n_v vs 2) ≤ v_iv (n_v vs 4) + 47 := d1
  obtain ⟨d2, hds⟩ := List.forall_mem_cons.mp hds
  have d2 : v_iv (n_v vs 2) + (-4294967296) ≤ v_iv (n_v vs 4) ∧ v_iv (n_v vs 4) ≤ v_iv (n_v vs 2) + 0 := d2
  have hf : fc_ok [(7, [4, 2], [2]), (20, [0, 4], [30, 0, 1, 1, 150, -1, 0, 0])] ta ws vs := hf
  obtain ⟨f0, hf⟩ := fc_un (by decide) hf
  have f0 : v_iv (n_v vs 4) < v_iv (n_v vs 2) := f0
  obtain ⟨f1, hf⟩ := fc_un (by decide) hf
  have f1 : 1 * w_fi ws (n_v vs 0) 150 + ((-1) * v_iv (n_v vs 4) + 0) ≤ 0 := f1
  have nf0 : fc_1 (20, [0], [30, 47, 1, 1, 150]) ws (vs) := by
    refine ⟨fun n hn => ?_, ?_⟩
    · have hn : n ∈ [0] := hn
      rw [hl]
      simp only [List.mem_cons, List.not_mem_nil, or_false] at hn
      show n < 8; omega
    · show 1 * w_fi ws (n_v vs 0) 150 + 0 ≤ 47
      omega
  refine ⟨(fun _ h => (by cases h)), [], trivial, ?_, (fun _ h => (by cases h))⟩
  rw [List.append_nil]
  exact List.forall_mem_cons.mpr ⟨⟨by decide, nf0⟩, (fun _ h => (by cases h))⟩
def o_Mo_label_4 : or_T := (52, 10, [(0, (2, 0, 0, [150])), (2, (0, 1, 47, [])), (4, (0, 0, 46, [])), (9, (0, 1, 47, []))], [(6, [9, 4], [1]), (20, [0], [30, 47, 1, 1, 150]), (20, [0, 4], [30, 0, 1, 1, 150, -1, 0, 0]), (102, [7], [694752535423897172541425910052127447119619907993843384236745504047478777839616]), (7, [4, 2], [2])], [], [], [(20, [0, 9], [30, 0, 1, 1, 150, -1, 0, 0])], [], [(9, 4, 1, 1), (9, 2, -4294967296, 0), (9, 2, -4294967296, 1), (4, 2, -4294967296, -1), (2, 4, -4294967296, 47), (4, 2, -4294967296, 0)])
theorem oo_Mo_label_4 {kA : Nat → ClassId} : or_ok kA GG o_Mo_label_4 := by
  intro A ta ws vs hD hth hl hk hds hf
  have hl : vs.length = 10 := hl
  have hk : ∀ q ∈ ([(0, (2, 0, 0, [150])), (2, (0, 1, 47, [])), (4, (0, 0, 46, [])), (9, (0, 1, 47, []))] : List (Nat × tv_T)), tv_ok ta q.2 (n_v vs q.1) := hk
  obtain ⟨t0, hk⟩ := List.forall_mem_cons.mp hk
  have t0 : tv_ok ta (2, 0, 0, [150]) (n_v vs 0) := t0
  have r0 : ta (v_ad (n_v vs 0)) = some 150 := tv_rg t0
  obtain ⟨t2, hk⟩ := List.forall_mem_cons.mp hk
  have t2 : tv_ok ta (0, 1, 47, []) (n_v vs 2) := t2
  have k2 : 1 ≤ v_iv (n_v vs 2) ∧ v_iv (n_v vs 2) ≤ 47 := tv_rng t2
  obtain ⟨t4, hk⟩ := List.forall_mem_cons.mp hk
  have t4 : tv_ok ta (0, 0, 46, []) (n_v vs 4) := t4
  have k4 : 0 ≤ v_iv (n_v vs 4) ∧ v_iv (n_v vs 4) ≤ 46 := tv_rng t4
  obtain ⟨t9, hk⟩ := List.forall_mem_cons.mp hk
  have t9 : tv_ok ta (0, 1, 47, []) (n_v vs 9) := t9
  have k9 : 1 ≤ v_iv (n_v vs 9) ∧ v_iv (n_v vs 9) ≤ 47 := tv_rng t9
  have hds : ∀ q ∈ ([(9, 4, 1, 1), (9, 2, -4294967296, 0), (9, 2, -4294967296, 1), (4, 2, -4294967296, -1), (2, 4, -4294967296, 47), (4, 2, -4294967296, 0)] : List of_T), n_iv vs q.2.1 + q.2.2.1 ≤ n_iv vs q.1 ∧ n_iv vs q.1 ≤ n_iv vs q.2.1 + q.2.2.2 := hds
  obtain ⟨d0, hds⟩ := List.forall_mem_cons.mp hds
  have d0 : v_iv (n_v vs 4) + 1 ≤ v_iv (n_v vs 9) ∧ v_iv (n_v vs 9) ≤ v_iv (n_v vs 4) + 1 := d0
  obtain ⟨d1, hds⟩ := List.forall_mem_cons.mp hds
  have d1 : v_iv (n_v vs 2) + (-4294967296) ≤ v_iv (n_v vs 9) ∧ v_iv (n_v vs 9) ≤ v_iv (n_v vs 2) + 0 := d1
  obtain ⟨d2, hds⟩ := List.forall_mem_cons.mp hds
  have d2 : v_iv (n_v vs 2) + (-4294967296) ≤ v_iv (n_v vs 9) ∧ v_iv (n_v vs 9) ≤ v_iv (n_v vs 2) + 1 := d2
  obtain ⟨d3, hds⟩ := List.forall_mem_cons.mp hds
  have d3 : v_iv (n_v vs 2) + (-4294967296) ≤ v_iv (n_v vs 4) ∧ v_iv (n_v vs 4) ≤ v_iv (n_v vs 2) + (-1) := d3
  obtain ⟨d4, hds⟩ := List.forall_mem_cons.mp hds
  have d4 : v_iv (n_v vs 4) + (-4294967296) ≤ v_iv (n_v vs 2) ∧ v_iv (n_v vs 2) ≤ v_iv (n_v vs 4) + 47 := d4
  obtain ⟨d5, hds⟩ := List.forall_mem_cons.mp hds
  have d5 : v_iv (n_v vs 2) + (-4294967296) ≤ v_iv (n_v vs 4) ∧ v_iv (n_v vs 4) ≤ v_iv (n_v vs 2) + 0 := d5
  have hf : fc_ok [(6, [9, 4], [1]), (20, [0], [30, 47, 1, 1, 150]), (20, [0, 4], [30, 0, 1, 1, 150, -1, 0, 0]), (102, [7], [694752535423897172541425910052127447119619907993843384236745504047478777839616]), (7, [4, 2], [2])] ta ws vs := hf
  obtain ⟨f0, hf⟩ := fc_un (by decide) hf
  have f0 : v_iv (n_v vs 9) = v_iv (n_v vs 4) + 1 := f0
  obtain ⟨f1, hf⟩ := fc_un (by decide) hf
  have f1 : 1 * w_fi ws (n_v vs 0) 150 + 0 ≤ 47 := f1
  obtain ⟨f2, hf⟩ := fc_un (by decide) hf
  have f2 : 1 * w_fi ws (n_v vs 0) 150 + ((-1) * v_iv (n_v vs 4) + 0) ≤ 0 := f2
  obtain ⟨ta1, w1, le1, ⟨_, s1⟩, hf⟩ := fc_us (by decide) hf
  obtain ⟨f4, hf⟩ := fc_un (by decide) hf
  have f4 : v_iv (n_v vs 4) < v_iv (n_v vs 2) := f4
  have nf0 : fc_1 (20, [0, 9], [30, 0, 1, 1, 150, -1, 0, 0]) ws (vs) := by
    refine ⟨fun n hn => ?_, ?_⟩
    · have hn : n ∈ [0, 9] := hn
      rw [hl]
      simp only [List.mem_cons, List.not_mem_nil, or_false] at hn
      show n < 10; omega
    · show 1 * w_fi ws (n_v vs 0) 150 + ((-1) * v_iv (n_v vs 9) + 0) ≤ 0
      omega
  refine ⟨(fun _ h => (by cases h)), [], trivial, ?_, (fun _ h => (by cases h))⟩
  rw [List.append_nil]
  exact List.forall_mem_cons.mpr ⟨⟨by decide, nf0⟩, (fun _ h => (by cases h))⟩
def o_Mo_label_5 : or_T := (52, 12, [(0, (2, 0, 0, [150])), (2, (0, 1, 47, [])), (4, (0, 0, 46, [])), (5, (0, 0, 46, [])), (9, (0, 1, 1, [])), (10, (0, 1, 47, [])), (11, (0, 1, 47, []))], [(6, [11, 4], [1]), (101, [0, 10], [150]), (1, [10, 5, 9], []), (9, [5, 0], [150]), (20, [0], [30, 47, 1, 1, 150]), (20, [0, 4], [30, 0, 1, 1, 150, -1, 0, 0]), (102, [7], [694752535423897172541425910052127447119619907993843384236745504047478777839616]), (7, [4, 2], [2])], [], [], [(20, [0, 11], [30, 0, 1, 1, 150, -1, 0, 0])], [], [(11, 4, 1, 1), (11, 2, -4294967296, 0), (11, 2, -4294967296, 1), (10, 5, 1, 1), (10, 2, -4294967296, 1), (10, 4, -4294967296, 1), (4, 2, -4294967296, -1), (2, 4, -4294967296, 47), (2, 5, -4294967296, 47), (4, 2, -4294967296, 0), (5, 2, -4294967296, 0), (5, 4, -4294967296, 0)])
theorem oo_Mo_label_5 {kA : Nat → ClassId} : or_ok kA GG o_Mo_label_5 := by
  intro A ta ws vs hD hth hl hk hds hf
  have hl : vs.length = 12 := hl
  have hk : ∀ q ∈ ([(0, (2, 0, 0, [150])), (2, (0, 1, 47, [])), (4, (0, 0, 46, [])), (5, (0, 0, 46, [])), (9, (0, 1, 1, [])), (10, (0, 1, 47, [])), (11, (0, 1, 47, []))] : List (Nat × tv_T)), tv_ok ta q.2 (n_v vs q.1) := hk
  obtain ⟨t0, hk⟩ := List.forall_mem_cons.mp hk
  have t0 : tv_ok ta (2, 0, 0, [150]) (n_v vs 0) := t0
  have r0 : ta (v_ad (n_v vs 0)) = some 150 := tv_rg t0
  obtain ⟨t2, hk⟩ := List.forall_mem_cons.mp hk
  have t2 : tv_ok ta (0, 1, 47, []) (n_v vs 2) := t2
  have k2 : 1 ≤ v_iv (n_v vs 2) ∧ v_iv (n_v vs 2) ≤ 47 := tv_rng t2
  obtain ⟨t4, hk⟩ := List.forall_mem_cons.mp hk
  have t4 : tv_ok ta (0, 0, 46, []) (n_v vs 4) := t4
  have k4 : 0 ≤ v_iv (n_v vs 4) ∧ v_iv (n_v vs 4) ≤ 46 := tv_rng t4
  obtain ⟨t5, hk⟩ := List.forall_mem_cons.mp hk
  have t5 : tv_ok ta (0, 0, 46, []) (n_v vs 5) := t5
  have k5 : 0 ≤ v_iv (n_v vs 5) ∧ v_iv (n_v vs 5) ≤ 46 := tv_rng t5
  obtain ⟨t9, hk⟩ := List.forall_mem_cons.mp hk
  have t9 : tv_ok ta (0, 1, 1, []) (n_v vs 9) := t9
  have k9 : 1 ≤ v_iv (n_v vs 9) ∧ v_iv (n_v vs 9) ≤ 1 := tv_rng t9
  obtain ⟨t10, hk⟩ := List.forall_mem_cons.mp hk
  have t10 : tv_ok ta (0, 1, 47, []) (n_v vs 10) := t10
  have k10 : 1 ≤ v_iv (n_v vs 10) ∧ v_iv (n_v vs 10) ≤ 47 := tv_rng t10
  obtain ⟨t11, hk⟩ := List.forall_mem_cons.mp hk
  have t11 : tv_ok ta (0, 1, 47, []) (n_v vs 11) := t11
  have k11 : 1 ≤ v_iv (n_v vs 11) ∧ v_iv (n_v vs 11) ≤ 47 := tv_rng t11
  have hds : ∀ q ∈ ([(11, 4, 1, 1), (11, 2, -4294967296, 0), (11, 2, -4294967296, 1), (10, 5, 1, 1), (10, 2, -4294967296, 1), (10, 4, -4294967296, 1), (4, 2, -4294967296, -1), (2, 4, -4294967296, 47), (2, 5, -4294967296, 47), (4, 2, -4294967296, 0), (5, 2, -4294967296, 0), (5, 4, -4294967296, 0)] : List of_T), n_iv vs q.2.1 + q.2.2.1 ≤ n_iv vs q.1 ∧ n_iv vs q.1 ≤ n_iv vs q.2.1 + q.2.2.2 := hds
  obtain ⟨d0, hds⟩ := List.forall_mem_cons.mp hds
  have d0 : v_iv (n_v vs 4) + 1 ≤ v_iv (n_v vs 11) ∧ v_iv (n_v vs 11) ≤ v_iv (n_v vs 4) + 1 := d0
  obtain ⟨d1, hds⟩ := List.forall_mem_cons.mp hds
  have d1 : v_iv (n_v vs 2) + (-4294967296) ≤ v_iv (n_v vs 11) ∧ v_iv (n_v vs 11) ≤ v_iv (n_v vs 2) + 0 := d1
  obtain ⟨d2, hds⟩ := List.forall_mem_cons.mp hds
  have d2 : v_iv (n_v vs 2) + (-4294967296) ≤ v_iv (n_v vs 11) ∧ v_iv (n_v vs 11) ≤ v_iv (n_v vs 2) + 1 := d2
  obtain ⟨d3, hds⟩ := List.forall_mem_cons.mp hds
  have d3 : v_iv (n_v vs 5) + 1 ≤ v_iv (n_v vs 10) ∧ v_iv (n_v vs 10) ≤ v_iv (n_v vs 5) + 1 := d3
  obtain ⟨d4, hds⟩ := List.forall_mem_cons.mp hds
  have d4 : v_iv (n_v vs 2) + (-4294967296) ≤ v_iv (n_v vs 10) ∧ v_iv (n_v vs 10) ≤ v_iv (n_v vs 2) + 1 := d4
  obtain ⟨d5, hds⟩ := List.forall_mem_cons.mp hds
  have d5 : v_iv (n_v vs 4) + (-4294967296) ≤ v_iv (n_v vs 10) ∧ v_iv (n_v vs 10) ≤ v_iv (n_v vs 4) + 1 := d5
  obtain ⟨d6, hds⟩ := List.forall_mem_cons.mp hds
  have d6 : v_iv (n_v vs 2) + (-4294967296) ≤ v_iv (n_v vs 4) ∧ v_iv (n_v vs 4) ≤ v_iv (n_v vs 2) + (-1) := d6
  obtain ⟨d7, hds⟩ := List.forall_mem_cons.mp hds
  have d7 : v_iv (n_v vs 4) + (-4294967296) ≤ v_iv (n_v vs 2) ∧ v_iv (n_v vs 2) ≤ v_iv (n_v vs 4) + 47 := d7
  obtain ⟨d8, hds⟩ := List.forall_mem_cons.mp hds
  have d8 : v_iv (n_v vs 5) + (-4294967296) ≤ v_iv (n_v vs 2) ∧ v_iv (n_v vs 2) ≤ v_iv (n_v vs 5) + 47 := d8
  obtain ⟨d9, hds⟩ := List.forall_mem_cons.mp hds
  have d9 : v_iv (n_v vs 2) + (-4294967296) ≤ v_iv (n_v vs 4) ∧ v_iv (n_v vs 4) ≤ v_iv (n_v vs 2) + 0 := d9
  obtain ⟨d10, hds⟩ := List.forall_mem_cons.mp hds
  have d10 : v_iv (n_v vs 2) + (-4294967296) ≤ v_iv (n_v vs 5) ∧ v_iv (n_v vs 5) ≤ v_iv (n_v vs 2) + 0 := d10
  obtain ⟨d11, hds⟩ := List.forall_mem_cons.mp hds
  have d11 : v_iv (n_v vs 4) + (-4294967296) ≤ v_iv (n_v vs 5) ∧ v_iv (n_v vs 5) ≤ v_iv (n_v vs 4) + 0 := d11
  have hf : fc_ok [(6, [11, 4], [1]), (101, [0, 10], [150]), (1, [10, 5, 9], []), (9, [5, 0], [150]), (20, [0], [30, 47, 1, 1, 150]), (20, [0, 4], [30, 0, 1, 1, 150, -1, 0, 0]), (102, [7], [694752535423897172541425910052127447119619907993843384236745504047478777839616]), (7, [4, 2], [2])] ta ws vs := hf
  obtain ⟨f0, hf⟩ := fc_un (by decide) hf
  have f0 : v_iv (n_v vs 11) = v_iv (n_v vs 4) + 1 := f0
  obtain ⟨ta1, w1, le1, ⟨_, s1⟩, hf⟩ := fc_us (by decide) hf
  have s1 : (∀ b j, w_el ws b j = w_el w1 b j) ∧ ∀ b j, w_fd ws b j = if b = v_ad (n_v vs 0) ∧ j = 150 then n_v vs 10 else w_fd w1 b j := s1
  obtain ⟨f2, hf⟩ := fc_un (by decide) hf
  have f2 : v_iv (n_v vs 10) = v_iv (n_v vs 5) + v_iv (n_v vs 9) := f2
  obtain ⟨f3, hf⟩ := fc_un (by decide) hf
  have f3 : n_v vs 5 = w_fd w1 (v_ad (n_v vs 0)) 150 := f3
  obtain ⟨f4, hf⟩ := fc_un (by decide) hf
  have f4 : 1 * w_fi w1 (n_v vs 0) 150 + 0 ≤ 47 := f4
  obtain ⟨f5, hf⟩ := fc_un (by decide) hf
  have f5 : 1 * w_fi w1 (n_v vs 0) 150 + ((-1) * v_iv (n_v vs 4) + 0) ≤ 0 := f5
  obtain ⟨ta2, w2, le2, ⟨_, s2⟩, hf⟩ := fc_us (by decide) hf
  obtain ⟨f7, hf⟩ := fc_un (by decide) hf
  have f7 : v_iv (n_v vs 4) < v_iv (n_v vs 2) := f7
  have g3 : v_iv (n_v vs 5) = w_fi w1 (n_v vs 0) 150 := congrArg v_iv f3
  have fe_0_150_1 : w_fi ws (n_v vs 0) 150 = v_iv (n_v vs 10) := by show v_iv (w_fd _ _ _) = _; rw [s1.2, if_pos ⟨rfl, rfl⟩]
  have nf0 : fc_1 (20, [0, 11], [30, 0, 1, 1, 150, -1, 0, 0]) ws (vs) := by
    refine ⟨fun n hn => ?_, ?_⟩
    · have hn : n ∈ [0, 11] := hn
      rw [hl]
      simp only [List.mem_cons, List.not_mem_nil, or_false] at hn
      show n < 12; omega
    · show 1 * w_fi ws (n_v vs 0) 150 + ((-1) * v_iv (n_v vs 11) + 0) ≤ 0
      omega
  refine ⟨(fun _ h => (by cases h)), [], trivial, ?_, (fun _ h => (by cases h))⟩
  rw [List.append_nil]
  exact List.forall_mem_cons.mpr ⟨⟨by decide, nf0⟩, (fun _ h => (by cases h))⟩
def n_Mo_label_an : List an_T := [(52, [(0, (2, 0, 0, [150])), (1, (0, -2147483648, 2147483647, [])), (2, (0, 0, 47, [])), (3, (0, 0, 1, [])), (4, (0, 0, 47, []))], [], (0, 0), [(0, 0, 99948), (1, 4, 47), (0, 0, 100000)], [(2, 3, -1000000000000, 47), (2, 4, -1000000000000, 47), (2, 5, -1000000000000, 47), (3, 2, -1000000000000, 1), (3, 4, -1000000000000, 1), (3, 5, -1000000000000, 1), (4, 2, -1000000000000, 0), (5, 2, -1000000000000, 0), (5, 4, -1000000000000, 0)], [((0, 150), (0, 0, 47, []))], [], 0, [], [(20, [0, 4], [30, 0, 1, 1, 150, -1, 0, 0])])]
def t_Mo_label_ct : ct_L := [(0, 387, e_Mo_in), (1, 401, e_Mo_edges), (1, 737, e_Mo_weight), (1, 1032, e_Mo_isDrawn), (1, 1082, e_Mo_finds)]
set_option maxRecDepth 100000 in
theorem c_Mo_label {l : Launch} {D : va_G} {kA : Nat → ClassId} (h_Mo_edges : ct_ok l D kA GG y_Mo_edges z_Mo_edges e_Mo_edges) (h_Mo_finds : ct_ok l D kA GG y_Mo_finds z_Mo_finds e_Mo_finds) (h_Mo_in : ct_ok l D kA GG y_Mo_in z_Mo_in e_Mo_in) (h_Mo_isDrawn : ct_ok l D kA GG y_Mo_isDrawn z_Mo_isDrawn e_Mo_isDrawn) (h_Mo_weight : ct_ok l D kA GG y_Mo_weight z_Mo_weight e_Mo_weight) : ct_ok l D kA GG y_Mo_label z_Mo_label e_Mo_label := chk_all_ok (FT := [(336, 13, 151), (339, 13, 152), (1079, 13, 150)]) (PT := [(1079, 13, 150, .int)]) (CT := t_Mo_label_ct) (KT := [(1, 775, .int (Int32.ofInt (-2147483648)), (0, -2147483648, -2147483648, []))]) (NT := []) (AN := n_Mo_label_an) (OT := [o_Mo_label_0, o_Mo_label_1, o_Mo_label_2, o_Mo_label_3, o_Mo_label_4, o_Mo_label_5]) 3 356 (List.forall_mem_cons.mpr ⟨oo_Mo_label_0, List.forall_mem_cons.mpr ⟨oo_Mo_label_1, List.forall_mem_cons.mpr ⟨oo_Mo_label_2, List.forall_mem_cons.mpr ⟨oo_Mo_label_3, List.forall_mem_cons.mpr ⟨oo_Mo_label_4, List.forall_mem_cons.mpr ⟨oo_Mo_label_5, List.forall_mem_nil _⟩⟩⟩⟩⟩⟩) (by decide +kernel) ⟨List.forall_mem_cons.mpr ⟨gf_Mo_336, List.forall_mem_cons.mpr ⟨gf_Mo_339, List.forall_mem_cons.mpr ⟨gf_Mo_1079, List.forall_mem_nil _⟩⟩⟩, List.forall_mem_cons.mpr ⟨pf_Mo_1079, List.forall_mem_nil _⟩, List.forall_mem_cons.mpr ⟨cl_static (y := y_Mo_in) h_Mo_in wm_2971 wm_9 wm_2969 wm_2970 ⟨by decide, by decide, by decide +kernel⟩ (by decide), List.forall_mem_cons.mpr ⟨cl_virtual (y := y_Mo_edges) (ci := 13) rfl rfl ⟨_, _, rfl⟩ (by decide +kernel) h_Mo_edges wm_3037 wm_9 wm_3034 wm_3036 wv_13_6 ⟨by decide, by decide, by decide +kernel⟩ (by decide), List.forall_mem_cons.mpr ⟨cl_virtual (y := y_Mo_weight) (ci := 13) rfl rfl ⟨_, _, rfl⟩ (by decide +kernel) h_Mo_weight wm_3339 wm_9 wm_3336 wm_3338 wv_17_7 ⟨by decide, by decide, by decide +kernel⟩ (by decide), List.forall_mem_cons.mpr ⟨cl_virtual (y := y_Mo_isDrawn) (ci := 13) rfl rfl ⟨_, _, rfl⟩ (by decide +kernel) h_Mo_isDrawn wm_3669 wm_9 wm_3666 wm_3668 wv_21_13 ⟨by decide, by decide, by decide +kernel⟩ (by decide), List.forall_mem_cons.mpr ⟨cl_virtual (y := y_Mo_finds) (ci := 13) rfl rfl ⟨_, _, rfl⟩ (by decide +kernel) h_Mo_finds wm_3722 wm_9 wm_3719 wm_3721 wv_22_7 ⟨by decide, by decide, by decide +kernel⟩ (by decide), List.forall_mem_nil _⟩⟩⟩⟩⟩, List.forall_mem_cons.mpr ⟨kx_Mo_1_775, List.forall_mem_nil _⟩, List.forall_mem_nil _⟩ (by decide +kernel)
def o_Re_readGroup_0 : or_T := (86, 14, [(0, (2, 0, 0, [8])), (1, (2, 0, 0, [3])), (6, (0, 1, 1, [])), (7, (2, 0, 0, [56])), (11, (0, 0, 2000, [])), (12, (0, 0, 2000, [])), (13, (0, -2000, 2000, []))], [(2, [13, 11, 12], []), (9, [12, 0], [8]), (9, [11, 0], [6]), (20, [0, 0, 6], [30, 2008, 1, 1, 6, -1, 1, 8, 2000, 0, 0]), (20, [0, 0, 6], [30, 2000, 1, 1, 8, -1, 1, 6, 2001, 0, 0]), (100, [7, 2, 9], []), (9, [7, 1], [11]), (8, [6], [1]), (20, [0, 0, 6], [30, 2008, 1, 1, 6, -1, 1, 8, 2000, 0, 0]), (20, [0, 0, 6], [30, 2000, 1, 1, 8, -1, 1, 6, 2001, 0, 0])], [(13, (0, 0, 8, []))], [], [], [], [(13, 11, -2000, 0)])
theorem oo_Re_readGroup_0 {kA : Nat → ClassId} : or_ok kA GG o_Re_readGroup_0 := by
  intro A ta ws vs hD hth hl hk hds hf
  have hl : vs.length = 14 := hl
  have hk : ∀ q ∈ ([(0, (2, 0, 0, [8])), (1, (2, 0, 0, [3])), (6, (0, 1, 1, [])), (7, (2, 0, 0, [56])), (11, (0, 0, 2000, [])), (12, (0, 0, 2000, [])), (13, (0, -2000, 2000, []))] : List (Nat × tv_T)), tv_ok ta q.2 (n_v vs q.1) := hk
  obtain ⟨t0, hk⟩ := List.forall_mem_cons.mp hk
  have t0 : tv_ok ta (2, 0, 0, [8]) (n_v vs 0) := t0
  have r0 : ta (v_ad (n_v vs 0)) = some 8 := tv_rg t0
  obtain ⟨t1, hk⟩ := List.forall_mem_cons.mp hk
  have t1 : tv_ok ta (2, 0, 0, [3]) (n_v vs 1) := t1
  have r1 : ta (v_ad (n_v vs 1)) = some 3 := tv_rg t1
  obtain ⟨t6, hk⟩ := List.forall_mem_cons.mp hk
  have t6 : tv_ok ta (0, 1, 1, []) (n_v vs 6) := t6
  have k6 : 1 ≤ v_iv (n_v vs 6) ∧ v_iv (n_v vs 6) ≤ 1 := tv_rng t6
  obtain ⟨t7, hk⟩ := List.forall_mem_cons.mp hk
  have t7 : tv_ok ta (2, 0, 0, [56]) (n_v vs 7) := t7
  have r7 : ta (v_ad (n_v vs 7)) = some 56 := tv_rg t7
  obtain ⟨t11, hk⟩ := List.forall_mem_cons.mp hk
  have t11 : tv_ok ta (0, 0, 2000, []) (n_v vs 11) := t11
  have k11 : 0 ≤ v_iv (n_v vs 11) ∧ v_iv (n_v vs 11) ≤ 2000 := tv_rng t11
  obtain ⟨t12, hk⟩ := List.forall_mem_cons.mp hk
  have t12 : tv_ok ta (0, 0, 2000, []) (n_v vs 12) := t12
  have k12 : 0 ≤ v_iv (n_v vs 12) ∧ v_iv (n_v vs 12) ≤ 2000 := tv_rng t12
  obtain ⟨t13, hk⟩ := List.forall_mem_cons.mp hk
  have t13 : tv_ok ta (0, -2000, 2000, []) (n_v vs 13) := t13
  have k13 : (-2000) ≤ v_iv (n_v vs 13) ∧ v_iv (n_v vs 13) ≤ 2000 := tv_rng t13
  have hds : ∀ q ∈ ([(13, 11, -2000, 0)] : List of_T), n_iv vs q.2.1 + q.2.2.1 ≤ n_iv vs q.1 ∧ n_iv vs q.1 ≤ n_iv vs q.2.1 + q.2.2.2 := hds
  obtain ⟨d0, hds⟩ := List.forall_mem_cons.mp hds
  have d0 : v_iv (n_v vs 11) + (-2000) ≤ v_iv (n_v vs 13) ∧ v_iv (n_v vs 13) ≤ v_iv (n_v vs 11) + 0 := d0
  have hf : fc_ok [(2, [13, 11, 12], []), (9, [12, 0], [8]), (9, [11, 0], [6]), (20, [0, 0, 6], [30, 2008, 1, 1, 6, -1, 1, 8, 2000, 0, 0]), (20, [0, 0, 6], [30, 2000, 1, 1, 8, -1, 1, 6, 2001, 0, 0]), (100, [7, 2, 9], []), (9, [7, 1], [11]), (8, [6], [1]), (20, [0, 0, 6], [30, 2008, 1, 1, 6, -1, 1, 8, 2000, 0, 0]), (20, [0, 0, 6], [30, 2000, 1, 1, 8, -1, 1, 6, 2001, 0, 0])] ta ws vs := hf
  obtain ⟨f0, hf⟩ := fc_un (by decide) hf
  have f0 : v_iv (n_v vs 13) = v_iv (n_v vs 11) - v_iv (n_v vs 12) := f0
  obtain ⟨f1, hf⟩ := fc_un (by decide) hf
  have f1 : n_v vs 12 = w_fd ws (v_ad (n_v vs 0)) 8 := f1
  obtain ⟨f2, hf⟩ := fc_un (by decide) hf
  have f2 : n_v vs 11 = w_fd ws (v_ad (n_v vs 0)) 6 := f2
  obtain ⟨f3, hf⟩ := fc_un (by decide) hf
  have f3 : 1 * w_fi ws (n_v vs 0) 6 + ((-1) * w_fi ws (n_v vs 0) 8 + (2000 * v_iv (n_v vs 6) + 0)) ≤ 2008 := f3
  obtain ⟨f4, hf⟩ := fc_un (by decide) hf
  have f4 : 1 * w_fi ws (n_v vs 0) 8 + ((-1) * w_fi ws (n_v vs 0) 6 + (2001 * v_iv (n_v vs 6) + 0)) ≤ 2000 := f4
  obtain ⟨ta1, w1, le1, ⟨_, s1⟩, hf⟩ := fc_us (by decide) hf
  have s1 : (∀ b j, w_el ws b j = if b = v_ad (n_v vs 7) ∧ j = (v_iv (n_v vs 2)).toNat then v_iv (n_v vs 9) else w_el w1 b j) ∧ ∀ b k, w_fd ws b k = w_fd w1 b k := s1
  obtain ⟨f6, hf⟩ := fc_un (by decide) hf
  have f6 : n_v vs 7 = w_fd w1 (v_ad (n_v vs 1)) 11 := f6
  obtain ⟨f7, hf⟩ := fc_un (by decide) hf
  have f7 : v_iv (n_v vs 6) ≠ 0 := f7
  obtain ⟨f8, hf⟩ := fc_un (by decide) hf
  have f8 : 1 * w_fi w1 (n_v vs 0) 6 + ((-1) * w_fi w1 (n_v vs 0) 8 + (2000 * v_iv (n_v vs 6) + 0)) ≤ 2008 := f8
  obtain ⟨f9, hf⟩ := fc_un (by decide) hf
  have f9 : 1 * w_fi w1 (n_v vs 0) 8 + ((-1) * w_fi w1 (n_v vs 0) 6 + (2001 * v_iv (n_v vs 6) + 0)) ≤ 2000 := f9
  have ar_1_11_1 : w_ar w1 (n_v vs 1) 11 = w_ar ws (n_v vs 1) 11 := by show v_ad (w_fd w1 _ _) = v_ad (w_fd ws _ _); rw [s1.2]
  have cr_1_11 : ta (w_ar ws (n_v vs 1) 11) = some 56 := tv_rg (th_fd hD hth r1 (g := GG_3) rfl (k := 11) (t := (2, 0, 0, [56])) rfl rfl)
  have ad_7 : v_ad (n_v vs 7) = w_ar ws (n_v vs 1) 11 := (congrArg v_ad f6).trans ar_1_11_1
  have g1 : v_iv (n_v vs 12) = w_fi ws (n_v vs 0) 8 := congrArg v_iv f1
  have g2 : v_iv (n_v vs 11) = w_fi ws (n_v vs 0) 6 := congrArg v_iv f2
  have fe_0_6_1 : w_fi ws (n_v vs 0) 6 = w_fi w1 (n_v vs 0) 6 := congrArg v_iv (s1.2 _ _)
  have fe_0_8_1 : w_fi ws (n_v vs 0) 8 = w_fi w1 (n_v vs 0) 8 := congrArg v_iv (s1.2 _ _)
  have rf13 : tv_ok ta (0, 0, 8, []) (n_v vs 13) := tv_in t13 (by omega) (by omega)
  refine ⟨List.forall_mem_cons.mpr ⟨rf13, (fun _ h => (by cases h))⟩, [], trivial, ?_, (fun _ h => (by cases h))⟩
  rw [List.append_nil]
  exact (fun _ h => (by cases h))
def o_Re_readGroup_1 : or_T := (115, 19, [(0, (2, 0, 0, [8])), (1, (2, 0, 0, [3])), (2, (0, 0, 7, [])), (3, (0, 8, 8, [])), (6, (0, 1, 1, [])), (7, (2, 0, 0, [56])), (10, (2, 0, 0, [58])), (11, (0, 0, 2000, [])), (12, (0, 0, 2000, [])), (13, (0, 0, 8, [])), (16, (0, 8, 8, [])), (17, (0, 0, 56, [])), (18, (0, -2000, 2000, []))], [(2, [18, 11, 12], []), (9, [12, 0], [8]), (9, [11, 0], [6]), (3, [17, 2, 16], []), (20, [0, 0, 6], [30, 2008, 1, 1, 6, -1, 1, 8, 2000, 0, 0]), (20, [0, 0, 6], [30, 2000, 1, 1, 8, -1, 1, 6, 2001, 0, 0]), (100, [10, 2, 13], []), (2, [13, 11, 12], []), (9, [10, 1], [13]), (20, [0, 0, 6], [30, 2008, 1, 1, 6, -1, 1, 8, 2000, 0, 0]), (20, [0, 0, 6], [30, 2000, 1, 1, 8, -1, 1, 6, 2001, 0, 0]), (100, [7, 2, 9], []), (9, [7, 1], [11]), (9, [2, 1], [2]), (8, [6], [1]), (20, [0, 0, 6], [30, 2008, 1, 1, 6, -1, 1, 8, 2000, 0, 0]), (20, [0, 0, 6], [30, 2000, 1, 1, 8, -1, 1, 6, 2001, 0, 0]), (102, [5], [0]), (102, [5], [0, 8006, 8007, 8008, 8009]), (7, [2, 3], [2])], [(18, (0, 0, 64, []))], [], [(21, [12, 18], [2000]), (21, [17, 18], [64])], [], [(18, 11, -2000, 0), (13, 11, -2000, 0)])
theorem oo_Re_readGroup_1 {kA : Nat → ClassId} : or_ok kA GG o_Re_readGroup_1 := by
  intro A ta ws vs hD hth hl hk hds hf
  have hl : vs.length = 19 := hl
  have hk : ∀ q ∈ ([(0, (2, 0, 0, [8])), (1, (2, 0, 0, [3])), (2, (0, 0, 7, [])), (3, (0, 8, 8, [])), (6, (0, 1, 1, [])), (7, (2, 0, 0, [56])), (10, (2, 0, 0, [58])), (11, (0, 0, 2000, [])), (12, (0, 0, 2000, [])), (13, (0, 0, 8, [])), (16, (0, 8, 8, [])), (17, (0, 0, 56, [])), (18, (0, -2000, 2000, []))] : List (Nat × tv_T)), tv_ok ta q.2 (n_v vs q.1) := hk
  obtain ⟨t0, hk⟩ := List.forall_mem_cons.mp hk
  have t0 : tv_ok ta (2, 0, 0, [8]) (n_v vs 0) := t0
  have r0 : ta (v_ad (n_v vs 0)) = some 8 := tv_rg t0
  obtain ⟨t1, hk⟩ := List.forall_mem_cons.mp hk
  have t1 : tv_ok ta (2, 0, 0, [3]) (n_v vs 1) := t1
  have r1 : ta (v_ad (n_v vs 1)) = some 3 := tv_rg t1
  obtain ⟨t2, hk⟩ := List.forall_mem_cons.mp hk
  have t2 : tv_ok ta (0, 0, 7, []) (n_v vs 2) := t2
  have k2 : 0 ≤ v_iv (n_v vs 2) ∧ v_iv (n_v vs 2) ≤ 7 := tv_rng t2
  obtain ⟨t3, hk⟩ := List.forall_mem_cons.mp hk
  have t3 : tv_ok ta (0, 8, 8, []) (n_v vs 3) := t3
  have k3 : 8 ≤ v_iv (n_v vs 3) ∧ v_iv (n_v vs 3) ≤ 8 := tv_rng t3
  obtain ⟨t6, hk⟩ := List.forall_mem_cons.mp hk
  have t6 : tv_ok ta (0, 1, 1, []) (n_v vs 6) := t6
  have k6 : 1 ≤ v_iv (n_v vs 6) ∧ v_iv (n_v vs 6) ≤ 1 := tv_rng t6
  obtain ⟨t7, hk⟩ := List.forall_mem_cons.mp hk
  have t7 : tv_ok ta (2, 0, 0, [56]) (n_v vs 7) := t7
  have r7 : ta (v_ad (n_v vs 7)) = some 56 := tv_rg t7
  obtain ⟨t10, hk⟩ := List.forall_mem_cons.mp hk
  have t10 : tv_ok ta (2, 0, 0, [58]) (n_v vs 10) := t10
  have r10 : ta (v_ad (n_v vs 10)) = some 58 := tv_rg t10
  obtain ⟨t11, hk⟩ := List.forall_mem_cons.mp hk
  have t11 : tv_ok ta (0, 0, 2000, []) (n_v vs 11) := t11
  have k11 : 0 ≤ v_iv (n_v vs 11) ∧ v_iv (n_v vs 11) ≤ 2000 := tv_rng t11
  obtain ⟨t12, hk⟩ := List.forall_mem_cons.mp hk
  have t12 : tv_ok ta (0, 0, 2000, []) (n_v vs 12) := t12
  have k12 : 0 ≤ v_iv (n_v vs 12) ∧ v_iv (n_v vs 12) ≤ 2000 := tv_rng t12
  obtain ⟨t13, hk⟩ := List.forall_mem_cons.mp hk
  have t13 : tv_ok ta (0, 0, 8, []) (n_v vs 13) := t13
  have k13 : 0 ≤ v_iv (n_v vs 13) ∧ v_iv (n_v vs 13) ≤ 8 := tv_rng t13
  obtain ⟨t16, hk⟩ := List.forall_mem_cons.mp hk
  have t16 : tv_ok ta (0, 8, 8, []) (n_v vs 16) := t16
  have k16 : 8 ≤ v_iv (n_v vs 16) ∧ v_iv (n_v vs 16) ≤ 8 := tv_rng t16
  obtain ⟨t17, hk⟩ := List.forall_mem_cons.mp hk
  have t17 : tv_ok ta (0, 0, 56, []) (n_v vs 17) := t17
  have k17 : 0 ≤ v_iv (n_v vs 17) ∧ v_iv (n_v vs 17) ≤ 56 := tv_rng t17
  obtain ⟨t18, hk⟩ := List.forall_mem_cons.mp hk
  have t18 : tv_ok ta (0, -2000, 2000, []) (n_v vs 18) := t18
  have k18 : (-2000) ≤ v_iv (n_v vs 18) ∧ v_iv (n_v vs 18) ≤ 2000 := tv_rng t18
  have hds : ∀ q ∈ ([(18, 11, -2000, 0), (13, 11, -2000, 0)] : List of_T), n_iv vs q.2.1 + q.2.2.1 ≤ n_iv vs q.1 ∧ n_iv vs q.1 ≤ n_iv vs q.2.1 + q.2.2.2 := hds
  obtain ⟨d0, hds⟩ := List.forall_mem_cons.mp hds
  have d0 : v_iv (n_v vs 11) + (-2000) ≤ v_iv (n_v vs 18) ∧ v_iv (n_v vs 18) ≤ v_iv (n_v vs 11) + 0 := d0
  obtain ⟨d1, hds⟩ := List.forall_mem_cons.mp hds
  have d1 : v_iv (n_v vs 11) + (-2000) ≤ v_iv (n_v vs 13) ∧ v_iv (n_v vs 13) ≤ v_iv (n_v vs 11) + 0 := d1
  have hf : fc_ok [(2, [18, 11, 12], []), (9, [12, 0], [8]), (9, [11, 0], [6]), (3, [17, 2, 16], []), (20, [0, 0, 6], [30, 2008, 1, 1, 6, -1, 1, 8, 2000, 0, 0]), (20, [0, 0, 6], [30, 2000, 1, 1, 8, -1, 1, 6, 2001, 0, 0]), (100, [10, 2, 13], []), (2, [13, 11, 12], []), (9, [10, 1], [13]), (20, [0, 0, 6], [30, 2008, 1, 1, 6, -1, 1, 8, 2000, 0, 0]), (20, [0, 0, 6], [30, 2000, 1, 1, 8, -1, 1, 6, 2001, 0, 0]), (100, [7, 2, 9], []), (9, [7, 1], [11]), (9, [2, 1], [2]), (8, [6], [1]), (20, [0, 0, 6], [30, 2008, 1, 1, 6, -1, 1, 8, 2000, 0, 0]), (20, [0, 0, 6], [30, 2000, 1, 1, 8, -1, 1, 6, 2001, 0, 0]), (102, [5], [0]), (102, [5], [0, 8006, 8007, 8008, 8009]), (7, [2, 3], [2])] ta ws vs := hf
  obtain ⟨f0, hf⟩ := fc_un (by decide) hf
  have f0 : v_iv (n_v vs 18) = v_iv (n_v vs 11) - v_iv (n_v vs 12) := f0
  obtain ⟨f1, hf⟩ := fc_un (by decide) hf
  have f1 : n_v vs 12 = w_fd ws (v_ad (n_v vs 0)) 8 := f1
  obtain ⟨f2, hf⟩ := fc_un (by decide) hf
  have f2 : n_v vs 11 = w_fd ws (v_ad (n_v vs 0)) 6 := f2
  obtain ⟨f3, hf⟩ := fc_un (by decide) hf
  have f3 : v_iv (n_v vs 17) = v_iv (n_v vs 2) * v_iv (n_v vs 16) := f3
  rw [show v_iv (n_v vs 16) = 8 from by omega] at f3
  obtain ⟨f4, hf⟩ := fc_un (by decide) hf
  have f4 : 1 * w_fi ws (n_v vs 0) 6 + ((-1) * w_fi ws (n_v vs 0) 8 + (2000 * v_iv (n_v vs 6) + 0)) ≤ 2008 := f4
  obtain ⟨f5, hf⟩ := fc_un (by decide) hf
  have f5 : 1 * w_fi ws (n_v vs 0) 8 + ((-1) * w_fi ws (n_v vs 0) 6 + (2001 * v_iv (n_v vs 6) + 0)) ≤ 2000 := f5
  obtain ⟨ta1, w1, le1, ⟨_, s1⟩, hf⟩ := fc_us (by decide) hf
  have s1 : (∀ b j, w_el ws b j = if b = v_ad (n_v vs 10) ∧ j = (v_iv (n_v vs 2)).toNat then v_iv (n_v vs 13) else w_el w1 b j) ∧ ∀ b k, w_fd ws b k = w_fd w1 b k := s1
  obtain ⟨f7, hf⟩ := fc_un (by decide) hf
  have f7 : v_iv (n_v vs 13) = v_iv (n_v vs 11) - v_iv (n_v vs 12) := f7
  obtain ⟨f8, hf⟩ := fc_un (by decide) hf
  have f8 : n_v vs 10 = w_fd w1 (v_ad (n_v vs 1)) 13 := f8
  obtain ⟨f9, hf⟩ := fc_un (by decide) hf
  have f9 : 1 * w_fi w1 (n_v vs 0) 6 + ((-1) * w_fi w1 (n_v vs 0) 8 + (2000 * v_iv (n_v vs 6) + 0)) ≤ 2008 := f9
  obtain ⟨f10, hf⟩ := fc_un (by decide) hf
  have f10 : 1 * w_fi w1 (n_v vs 0) 8 + ((-1) * w_fi w1 (n_v vs 0) 6 + (2001 * v_iv (n_v vs 6) + 0)) ≤ 2000 := f10
  obtain ⟨ta2, w2, le2, ⟨_, s2⟩, hf⟩ := fc_us (by decide) hf
  have s2 : (∀ b j, w_el w1 b j = if b = v_ad (n_v vs 7) ∧ j = (v_iv (n_v vs 2)).toNat then v_iv (n_v vs 9) else w_el w2 b j) ∧ ∀ b k, w_fd w1 b k = w_fd w2 b k := s2
  obtain ⟨f12, hf⟩ := fc_un (by decide) hf
  have f12 : n_v vs 7 = w_fd w2 (v_ad (n_v vs 1)) 11 := f12
  obtain ⟨f13, hf⟩ := fc_un (by decide) hf
  have f13 : n_v vs 2 = w_fd w2 (v_ad (n_v vs 1)) 2 := f13
  obtain ⟨f14, hf⟩ := fc_un (by decide) hf
  have f14 : v_iv (n_v vs 6) ≠ 0 := f14
  obtain ⟨f15, hf⟩ := fc_un (by decide) hf
  have f15 : 1 * w_fi w2 (n_v vs 0) 6 + ((-1) * w_fi w2 (n_v vs 0) 8 + (2000 * v_iv (n_v vs 6) + 0)) ≤ 2008 := f15
  obtain ⟨f16, hf⟩ := fc_un (by decide) hf
  have f16 : 1 * w_fi w2 (n_v vs 0) 8 + ((-1) * w_fi w2 (n_v vs 0) 6 + (2001 * v_iv (n_v vs 6) + 0)) ≤ 2000 := f16
  obtain ⟨ta3, w3, le3, ⟨_, s3⟩, hf⟩ := fc_us (by decide) hf
  obtain ⟨ta4, w4, le4, ⟨_, s4⟩, hf⟩ := fc_us (by decide) hf
  obtain ⟨f19, hf⟩ := fc_un (by decide) hf
  have f19 : v_iv (n_v vs 2) < v_iv (n_v vs 3) := f19
  have ar_1_11_1 : w_ar w1 (n_v vs 1) 11 = w_ar ws (n_v vs 1) 11 := by show v_ad (w_fd w1 _ _) = v_ad (w_fd ws _ _); rw [s1.2]
  have ar_1_11_2 : w_ar w2 (n_v vs 1) 11 = w_ar ws (n_v vs 1) 11 := by rw [← ar_1_11_1]; show v_ad (w_fd w2 _ _) = v_ad (w_fd w1 _ _); rw [s2.2]
  have cr_1_11 : ta (w_ar ws (n_v vs 1) 11) = some 56 := tv_rg (th_fd hD hth r1 (g := GG_3) rfl (k := 11) (t := (2, 0, 0, [56])) rfl rfl)
  have ar_1_13_1 : w_ar w1 (n_v vs 1) 13 = w_ar ws (n_v vs 1) 13 := by show v_ad (w_fd w1 _ _) = v_ad (w_fd ws _ _); rw [s1.2]
  have ar_1_13_2 : w_ar w2 (n_v vs 1) 13 = w_ar ws (n_v vs 1) 13 := by rw [← ar_1_13_1]; show v_ad (w_fd w2 _ _) = v_ad (w_fd w1 _ _); rw [s2.2]
  have cr_1_13 : ta (w_ar ws (n_v vs 1) 13) = some 58 := tv_rg (th_fd hD hth r1 (g := GG_3) rfl (k := 13) (t := (2, 0, 0, [58])) rfl rfl)
  have ad_10 : v_ad (n_v vs 10) = w_ar ws (n_v vs 1) 13 := (congrArg v_ad f8).trans ar_1_13_1
  have ad_7 : v_ad (n_v vs 7) = w_ar ws (n_v vs 1) 11 := (congrArg v_ad f12).trans ar_1_11_2
  have g1 : v_iv (n_v vs 12) = w_fi ws (n_v vs 0) 8 := congrArg v_iv f1
  have g2 : v_iv (n_v vs 11) = w_fi ws (n_v vs 0) 6 := congrArg v_iv f2
  have g13 : v_iv (n_v vs 2) = w_fi w2 (n_v vs 1) 2 := congrArg v_iv f13
  have fe_0_6_1 : w_fi ws (n_v vs 0) 6 = w_fi w1 (n_v vs 0) 6 := congrArg v_iv (s1.2 _ _)
  have fe_0_8_1 : w_fi ws (n_v vs 0) 8 = w_fi w1 (n_v vs 0) 8 := congrArg v_iv (s1.2 _ _)
  have fe_1_2_1 : w_fi ws (n_v vs 1) 2 = w_fi w1 (n_v vs 1) 2 := congrArg v_iv (s1.2 _ _)
  have fe_0_6_2 : w_fi w1 (n_v vs 0) 6 = w_fi w2 (n_v vs 0) 6 := congrArg v_iv (s2.2 _ _)
  have fe_0_8_2 : w_fi w1 (n_v vs 0) 8 = w_fi w2 (n_v vs 0) 8 := congrArg v_iv (s2.2 _ _)
  have fe_1_2_2 : w_fi w1 (n_v vs 1) 2 = w_fi w2 (n_v vs 1) 2 := congrArg v_iv (s2.2 _ _)
  have nf0 : fc_1 (21, [12, 18], [2000]) ws (vs) := by
    refine ⟨fun n hn => ?_, ?_⟩
    · have hn : n ∈ [12, 18] := hn
      rw [hl]
      simp only [List.mem_cons, List.not_mem_nil, or_false] at hn
      show n < 19; omega
    · show v_iv (n_v vs 12) + v_iv (n_v vs 18) ≤ 2000
      omega
  have nf1 : fc_1 (21, [17, 18], [64]) ws (vs) := by
    refine ⟨fun n hn => ?_, ?_⟩
    · have hn : n ∈ [17, 18] := hn
      rw [hl]
      simp only [List.mem_cons, List.not_mem_nil, or_false] at hn
      show n < 19; omega
    · show v_iv (n_v vs 17) + v_iv (n_v vs 18) ≤ 64
      omega
  have rf18 : tv_ok ta (0, 0, 64, []) (n_v vs 18) := tv_in t18 (by omega) (by omega)
  refine ⟨List.forall_mem_cons.mpr ⟨rf18, (fun _ h => (by cases h))⟩, [], trivial, ?_, (fun _ h => (by cases h))⟩
  rw [List.append_nil]
  exact List.forall_mem_cons.mpr ⟨⟨by decide, nf0⟩, List.forall_mem_cons.mpr ⟨⟨by decide, nf1⟩, (fun _ h => (by cases h))⟩⟩
def n_Re_readGroup_an : List an_T := []
def t_Re_readGroup_ct : ct_L := [(1, 57, e_Re_advance), (1, 107, e_Re_isName), (1, 113, e_Re_fail), (348, 150, e_acp_87)]
set_option maxRecDepth 100000 in
theorem c_Re_readGroup {l : Launch} {D : va_G} {kA : Nat → ClassId} (h_Re_advance : ct_ok l D kA GG y_Re_advance z_Re_advance e_Re_advance) (h_Re_fail : ct_ok l D kA GG y_Re_fail z_Re_fail e_Re_fail) (h_Re_isName : ct_ok l D kA GG y_Re_isName z_Re_isName e_Re_isName) : ct_ok l D kA GG y_Re_readGroup z_Re_readGroup e_Re_readGroup := chk_all_ok (FT := [(9, 8, 0), (28, 8, 4), (35, 8, 6), (38, 8, 7), (41, 8, 8), (47, 8, 10), (51, 8, 11), (138, 3, 2), (141, 3, 11), (144, 3, 13), (147, 3, 12)]) (PT := [(51, 8, 11, .int), (138, 3, 2, .int)]) (CT := t_Re_readGroup_ct) (KT := []) (NT := []) (AN := n_Re_readGroup_an) (OT := [o_Re_readGroup_0, o_Re_readGroup_1]) 0 400 (List.forall_mem_cons.mpr ⟨oo_Re_readGroup_0, List.forall_mem_cons.mpr ⟨oo_Re_readGroup_1, List.forall_mem_nil _⟩⟩) (by decide +kernel) ⟨List.forall_mem_cons.mpr ⟨gf_Re_9, List.forall_mem_cons.mpr ⟨gf_Re_28, List.forall_mem_cons.mpr ⟨gf_Re_35, List.forall_mem_cons.mpr ⟨gf_Re_38, List.forall_mem_cons.mpr ⟨gf_Re_41, List.forall_mem_cons.mpr ⟨gf_Re_47, List.forall_mem_cons.mpr ⟨gf_Re_51, List.forall_mem_cons.mpr ⟨gf_Re_138, List.forall_mem_cons.mpr ⟨gf_Re_141, List.forall_mem_cons.mpr ⟨gf_Re_144, List.forall_mem_cons.mpr ⟨gf_Re_147, List.forall_mem_nil _⟩⟩⟩⟩⟩⟩⟩⟩⟩⟩⟩, List.forall_mem_cons.mpr ⟨pf_Re_51, List.forall_mem_cons.mpr ⟨pf_Re_138, List.forall_mem_nil _⟩⟩, List.forall_mem_cons.mpr ⟨cl_virtual (y := y_Re_advance) (ci := 8) rfl rfl ⟨_, _, rfl⟩ (by decide +kernel) h_Re_advance wm_645 wm_2 wm_642 wm_644 wv_1_0 ⟨by decide, by decide, by decide +kernel⟩ (by decide), List.forall_mem_cons.mpr ⟨cl_virtual (y := y_Re_isName) (ci := 8) rfl rfl ⟨_, _, rfl⟩ (by decide +kernel) h_Re_isName wm_726 wm_2 wm_723 wm_725 wv_1_4 ⟨by decide, by decide, by decide +kernel⟩ (by decide), List.forall_mem_cons.mpr ⟨cl_virtual (y := y_Re_fail) (ci := 8) rfl rfl ⟨_, _, rfl⟩ (by decide +kernel) h_Re_fail wm_731 wm_2 wm_728 wm_730 wv_1_5 ⟨by decide, by decide, by decide +kernel⟩ (by decide), List.forall_mem_cons.mpr ⟨cl_copy rfl rfl (by decide) (by decide) (by decide) wm_760 wm_750 wm_749 wm_15, List.forall_mem_nil _⟩⟩⟩⟩, List.forall_mem_nil _, List.forall_mem_nil _⟩ (by decide +kernel)
def n_Mo_count_an : List an_T := []
def t_Mo_count_ct : ct_L := [(0, 521, e_Mo_isPlace), (1, 401, e_Mo_edges), (1, 475, e_Mo_nodes), (1, 509, e_Mo_groups), (1, 527, e_Mo_take), (1, 668, e_Mo_blocks), (1, 689, e_Mo_plane), (1, 716, e_Mo_parts), (1, 719, e_Mo_strong)]
set_option maxRecDepth 100000 in
theorem c_Mo_count {l : Launch} {D : va_G} {kA : Nat → ClassId} (h_Mo_blocks : ct_ok l D kA GG y_Mo_blocks z_Mo_blocks e_Mo_blocks) (h_Mo_edges : ct_ok l D kA GG y_Mo_edges z_Mo_edges e_Mo_edges) (h_Mo_groups : ct_ok l D kA GG y_Mo_groups z_Mo_groups e_Mo_groups) (h_Mo_isPlace : ct_ok l D kA GG y_Mo_isPlace z_Mo_isPlace e_Mo_isPlace) (h_Mo_nodes : ct_ok l D kA GG y_Mo_nodes z_Mo_nodes e_Mo_nodes) (h_Mo_parts : ct_ok l D kA GG y_Mo_parts z_Mo_parts e_Mo_parts) (h_Mo_plane : ct_ok l D kA GG y_Mo_plane z_Mo_plane e_Mo_plane) (h_Mo_strong : ct_ok l D kA GG y_Mo_strong z_Mo_strong e_Mo_strong) (h_Mo_take : ct_ok l D kA GG y_Mo_take z_Mo_take e_Mo_take) : ct_ok l D kA GG y_Mo_count z_Mo_count e_Mo_count := chk_all_ok (FT := [(20, 13, 3), (23, 13, 4)]) (PT := []) (CT := t_Mo_count_ct) (KT := []) (NT := []) (AN := n_Mo_count_an) (OT := []) 0 208 (List.forall_mem_nil _) (by decide +kernel) ⟨List.forall_mem_cons.mpr ⟨gf_Mo_20, List.forall_mem_cons.mpr ⟨gf_Mo_23, List.forall_mem_nil _⟩⟩, List.forall_mem_nil _, List.forall_mem_cons.mpr ⟨cl_static (y := y_Mo_isPlace) h_Mo_isPlace wm_2978 wm_9 wm_2976 wm_2977 ⟨by decide, by decide, by decide +kernel⟩ (by decide), List.forall_mem_cons.mpr ⟨cl_virtual (y := y_Mo_edges) (ci := 13) rfl rfl ⟨_, _, rfl⟩ (by decide +kernel) h_Mo_edges wm_3037 wm_9 wm_3034 wm_3036 wv_13_6 ⟨by decide, by decide, by decide +kernel⟩ (by decide), List.forall_mem_cons.mpr ⟨cl_virtual (y := y_Mo_nodes) (ci := 13) rfl rfl ⟨_, _, rfl⟩ (by decide +kernel) h_Mo_nodes wm_3025 wm_9 wm_3022 wm_3024 wv_13_3 ⟨by decide, by decide, by decide +kernel⟩ (by decide), List.forall_mem_cons.mpr ⟨cl_virtual (y := y_Mo_groups) (ci := 13) rfl rfl ⟨_, _, rfl⟩ (by decide +kernel) h_Mo_groups wm_3070 wm_9 wm_3067 wm_3069 wv_13_14 ⟨by decide, by decide, by decide +kernel⟩ (by decide), List.forall_mem_cons.mpr ⟨cl_virtual (y := y_Mo_take) (ci := 13) rfl rfl ⟨_, _, rfl⟩ (by decide +kernel) h_Mo_take wm_3091 wm_9 wm_3088 wm_3090 wv_14_2 ⟨by decide, by decide, by decide +kernel⟩ (by decide), List.forall_mem_cons.mpr ⟨cl_virtual (y := y_Mo_blocks) (ci := 13) rfl rfl ⟨_, _, rfl⟩ (by decide +kernel) h_Mo_blocks wm_3155 wm_9 wm_3152 wm_3154 wv_14_14 ⟨by decide, by decide, by decide +kernel⟩ (by decide), List.forall_mem_cons.mpr ⟨cl_virtual (y := y_Mo_plane) (ci := 13) rfl rfl ⟨_, _, rfl⟩ (by decide +kernel) h_Mo_plane wm_3147 wm_9 wm_3144 wm_3146 wv_14_12 ⟨by decide, by decide, by decide +kernel⟩ (by decide), List.forall_mem_cons.mpr ⟨cl_virtual (y := y_Mo_parts) (ci := 13) rfl rfl ⟨_, _, rfl⟩ (by decide +kernel) h_Mo_parts wm_3283 wm_9 wm_3280 wm_3282 wv_16_11 ⟨by decide, by decide, by decide +kernel⟩ (by decide), List.forall_mem_cons.mpr ⟨cl_virtual (y := y_Mo_strong) (ci := 13) rfl rfl ⟨_, _, rfl⟩ (by decide +kernel) h_Mo_strong wm_3291 wm_9 wm_3288 wm_3290 wv_16_13 ⟨by decide, by decide, by decide +kernel⟩ (by decide), List.forall_mem_nil _⟩⟩⟩⟩⟩⟩⟩⟩⟩, List.forall_mem_nil _, List.forall_mem_nil _⟩ (by decide +kernel)
def n_Sy_closes_an : List an_T := []
def t_Sy_closes_ct : ct_L := [(1, 118, e_Sy_fail)]
set_option maxRecDepth 100000 in
theorem c_Sy_closes {l : Launch} {D : va_G} {kA : Nat → ClassId} (h_Sy_fail : ct_ok l D kA GG y_Sy_fail z_Sy_fail e_Sy_fail) : ct_ok l D kA GG y_Sy_closes z_Sy_closes e_Sy_closes := chk_all_ok (FT := [(31, 11, 6)]) (PT := []) (CT := t_Sy_closes_ct) (KT := []) (NT := []) (AN := n_Sy_closes_an) (OT := []) 0 200 (List.forall_mem_nil _) (by decide +kernel) ⟨List.forall_mem_cons.mpr ⟨gf_Sy_31, List.forall_mem_nil _⟩, List.forall_mem_nil _, List.forall_mem_cons.mpr ⟨cl_virtual (y := y_Sy_fail) (ci := 11) rfl rfl ⟨_, _, rfl⟩ (by decide +kernel) h_Sy_fail wm_2239 wm_23 wm_2236 wm_2238 wv_10_14 ⟨by decide, by decide, by decide +kernel⟩ (by decide), List.forall_mem_nil _⟩, List.forall_mem_nil _, List.forall_mem_nil _⟩ (by decide +kernel)
def n_Ho_text_an : List an_T := []
def t_Ho_text_ct : ct_L := [(0, 115, e_Ho_isPlace), (1, 323, e_Ho_hasDrawing), (1, 364, e_Ho_writeGroup), (1, 368, e_Ho_writeEdges), (1, 371, e_Ho_writeDrawing)]
set_option maxRecDepth 100000 in
theorem c_Ho_text {l : Launch} {D : va_G} {kA : Nat → ClassId} (h_Ho_hasDrawing : ct_ok l D kA GG y_Ho_hasDrawing z_Ho_hasDrawing e_Ho_hasDrawing) (h_Ho_isPlace : ct_ok l D kA GG y_Ho_isPlace z_Ho_isPlace e_Ho_isPlace) (h_Ho_writeDrawing : ct_ok l D kA GG y_Ho_writeDrawing z_Ho_writeDrawing e_Ho_writeDrawing) (h_Ho_writeEdges : ct_ok l D kA GG y_Ho_writeEdges z_Ho_writeEdges e_Ho_writeEdges) (h_Ho_writeGroup : ct_ok l D kA GG y_Ho_writeGroup z_Ho_writeGroup e_Ho_writeGroup) : ct_ok l D kA GG y_Ho_text z_Ho_text e_Ho_text := chk_all_ok (FT := [(13, 12, 0), (31, 12, 3), (60, 12, 9), (64, 12, 10), (67, 12, 11), (70, 12, 12)]) (PT := [(60, 12, 9, .array .byte), (64, 12, 10, .array .byte), (67, 12, 11, .int), (70, 12, 12, .int)]) (CT := t_Ho_text_ct) (KT := []) (NT := []) (AN := n_Ho_text_an) (OT := []) 0 420 (List.forall_mem_nil _) (by decide +kernel) ⟨List.forall_mem_cons.mpr ⟨gf_Ho_13, List.forall_mem_cons.mpr ⟨gf_Ho_31, List.forall_mem_cons.mpr ⟨gf_Ho_60, List.forall_mem_cons.mpr ⟨gf_Ho_64, List.forall_mem_cons.mpr ⟨gf_Ho_67, List.forall_mem_cons.mpr ⟨gf_Ho_70, List.forall_mem_nil _⟩⟩⟩⟩⟩⟩, List.forall_mem_cons.mpr ⟨pf_Ho_60, List.forall_mem_cons.mpr ⟨pf_Ho_64, List.forall_mem_cons.mpr ⟨pf_Ho_67, List.forall_mem_cons.mpr ⟨pf_Ho_70, List.forall_mem_nil _⟩⟩⟩⟩, List.forall_mem_cons.mpr ⟨cl_static (y := y_Ho_isPlace) h_Ho_isPlace wm_633 wm_1 wm_631 wm_632 ⟨by decide, by decide, by decide +kernel⟩ (by decide), List.forall_mem_cons.mpr ⟨cl_virtual (y := y_Ho_hasDrawing) (ci := 12) rfl rfl ⟨_, _, rfl⟩ (by decide +kernel) h_Ho_hasDrawing wm_1859 wm_1 wm_1856 wm_1858 wv_8_15 ⟨by decide, by decide, by decide +kernel⟩ (by decide), List.forall_mem_cons.mpr ⟨cl_virtual (y := y_Ho_writeGroup) (ci := 12) rfl rfl ⟨_, _, rfl⟩ (by decide +kernel) h_Ho_writeGroup wm_2334 wm_1 wm_2331 wm_2333 wv_11_14 ⟨by decide, by decide, by decide +kernel⟩ (by decide), List.forall_mem_cons.mpr ⟨cl_virtual (y := y_Ho_writeEdges) (ci := 12) rfl rfl ⟨_, _, rfl⟩ (by decide +kernel) h_Ho_writeEdges wm_2365 wm_1 wm_2362 wm_2364 wv_12_3 ⟨by decide, by decide, by decide +kernel⟩ (by decide), List.forall_mem_cons.mpr ⟨cl_virtual (y := y_Ho_writeDrawing) (ci := 12) rfl rfl ⟨_, _, rfl⟩ (by decide +kernel) h_Ho_writeDrawing wm_2372 wm_1 wm_2369 wm_2371 wv_12_4 ⟨by decide, by decide, by decide +kernel⟩ (by decide), List.forall_mem_nil _⟩⟩⟩⟩⟩, List.forall_mem_nil _, List.forall_mem_nil _⟩ (by decide +kernel)
def n_Mo_embed_an : List an_T := [(12, [(0, (2, 0, 0, [150])), (1, (0, 0, 80, [])), (2, (0, 0, 25, []))], [], (0, 0), [(0, 0, 99988), (1, 2, 25), (0, 0, 100000), (0, 0, 0), (0, 0, 0)], [], [], [], 0, [], []), (35, [(0, (2, 0, 0, [150])), (1, (0, 0, 80, [])), (2, (0, 0, 80, []))], [], (0, 0), [(0, 0, 99965), (1, 2, 80), (0, 0, 100000), (0, 0, 0), (0, 0, 0)], [], [], [], 0, [], []), (52, [(0, (2, 0, 0, [150])), (1, (0, 1, 80, [])), (2, (0, 0, 79, [])), (3, (0, 0, 25, []))], [], (0, 0), [(0, 0, 99965), (1, 2, 80), (0, 0, 99948), (1, 3, 25), (0, 0, 100000)], [], [], [], 0, [], [])]
def t_Mo_embed_ct : ct_L := [(1, 668, e_Mo_blocks), (1, 671, e_Mo_draws), (1, 674, e_Mo_turnRound)]
set_option maxRecDepth 100000 in
theorem c_Mo_embed {l : Launch} {D : va_G} {kA : Nat → ClassId} (h_Mo_blocks : ct_ok l D kA GG y_Mo_blocks z_Mo_blocks e_Mo_blocks) (h_Mo_draws : ct_ok l D kA GG y_Mo_draws z_Mo_draws e_Mo_draws) (h_Mo_turnRound : ct_ok l D kA GG y_Mo_turnRound z_Mo_turnRound e_Mo_turnRound) : ct_ok l D kA GG y_Mo_embed z_Mo_embed e_Mo_embed := chk_all_ok (FT := [(66, 13, 36), (594, 13, 31)]) (PT := [(649, 13, 49, .int)]) (CT := t_Mo_embed_ct) (KT := []) (NT := []) (AN := n_Mo_embed_an) (OT := []) 5 200 (List.forall_mem_nil _) (by decide +kernel) ⟨List.forall_mem_cons.mpr ⟨gf_Mo_66, List.forall_mem_cons.mpr ⟨gf_Mo_594, List.forall_mem_nil _⟩⟩, List.forall_mem_cons.mpr ⟨pf_Mo_649, List.forall_mem_nil _⟩, List.forall_mem_cons.mpr ⟨cl_virtual (y := y_Mo_blocks) (ci := 13) rfl rfl ⟨_, _, rfl⟩ (by decide +kernel) h_Mo_blocks wm_3155 wm_9 wm_3152 wm_3154 wv_14_14 ⟨by decide, by decide, by decide +kernel⟩ (by decide), List.forall_mem_cons.mpr ⟨cl_virtual (y := y_Mo_draws) (ci := 13) rfl rfl ⟨_, _, rfl⟩ (by decide +kernel) h_Mo_draws wm_3178 wm_9 wm_3175 wm_3177 wv_15_3 ⟨by decide, by decide, by decide +kernel⟩ (by decide), List.forall_mem_cons.mpr ⟨cl_virtual (y := y_Mo_turnRound) (ci := 13) rfl rfl ⟨_, _, rfl⟩ (by decide +kernel) h_Mo_turnRound wm_3243 wm_9 wm_3240 wm_3242 wv_16_3 ⟨by decide, by decide, by decide +kernel⟩ (by decide), List.forall_mem_nil _⟩⟩⟩, List.forall_mem_nil _, List.forall_mem_nil _⟩ (by decide +kernel)
def n_Ho_change_an : List an_T := []
def t_Ho_change_ct : ct_L := [(0, 115, e_Ho_isPlace), (1, 129, e_Ho_forget), (1, 236, e_Gr_mayAlter), (109, 240, e_Gr_alter_at_kx)]
set_option maxRecDepth 100000 in
theorem c_Ho_change {l : Launch} {D : va_G} {kA : Nat → ClassId} (h_Gr_alter_at_kx : ct_ok l D kA GG y_Gr_alter_at_kx z_Gr_alter_at_kx e_Gr_alter_at_kx) (h_Gr_mayAlter : ct_ok l D kA GG y_Gr_mayAlter z_Gr_mayAlter e_Gr_mayAlter) (h_Ho_forget : ct_ok l D kA GG y_Ho_forget z_Ho_forget e_Ho_forget) (h_Ho_isPlace : ct_ok l D kA GG y_Ho_isPlace z_Ho_isPlace e_Ho_isPlace) : ct_ok l D kA GG y_Ho_change z_Ho_change e_Ho_change := chk_all_ok (FT := [(13, 12, 0)]) (PT := []) (CT := t_Ho_change_ct) (KT := []) (NT := []) (AN := n_Ho_change_an) (OT := []) 0 200 (List.forall_mem_nil _) (by decide +kernel) ⟨List.forall_mem_cons.mpr ⟨gf_Ho_13, List.forall_mem_nil _⟩, List.forall_mem_nil _, List.forall_mem_cons.mpr ⟨cl_static (y := y_Ho_isPlace) h_Ho_isPlace wm_633 wm_1 wm_631 wm_632 ⟨by decide, by decide, by decide +kernel⟩ (by decide), List.forall_mem_cons.mpr ⟨cl_virtual (y := y_Ho_forget) (ci := 12) rfl rfl ⟨_, _, rfl⟩ (by decide +kernel) h_Ho_forget wm_789 wm_1 wm_786 wm_788 wv_1_13 ⟨by decide, by decide, by decide +kernel⟩ (by decide), List.forall_mem_cons.mpr ⟨cl_virtual (y := y_Gr_mayAlter) (ci := 3) rfl rfl ⟨_, _, rfl⟩ (by decide +kernel) h_Gr_mayAlter wm_958 wm_3 wm_955 wm_956 wm_957 ⟨by decide, by decide, by decide +kernel⟩ (by decide), List.forall_mem_cons.mpr ⟨cl_virtual (y := y_Gr_alter_at_kx) (ci := 3) rfl rfl ⟨_, _, rfl⟩ (by decide +kernel) h_Gr_alter_at_kx wm_975 wm_3 wm_972 wm_973 wm_974 ⟨by decide, by decide, by decide +kernel⟩ (by decide), List.forall_mem_nil _⟩⟩⟩⟩, List.forall_mem_nil _, List.forall_mem_nil _⟩ (by decide +kernel)
def n_Dr_verdict_an : List an_T := []
def t_Dr_verdict_ct : ct_L := [(1, 160, e_Dr_countCrossings), (1, 164, e_Dr_countNodePairs), (1, 168, e_Dr_countStruckNodes), (1, 171, e_Dr_countUpward), (1, 174, e_Dr_countBends), (1, 177, e_Dr_countSlanted), (1, 180, e_Dr_wholeArea), (1, 183, e_Dr_wholeLength), (1, 186, e_Dr_leastTriangle)]
set_option maxRecDepth 100000 in
theorem c_Dr_verdict {l : Launch} {D : va_G} {kA : Nat → ClassId} (h_Dr_countBends : ct_ok l D kA GG y_Dr_countBends z_Dr_countBends e_Dr_countBends) (h_Dr_countCrossings : ct_ok l D kA GG y_Dr_countCrossings z_Dr_countCrossings e_Dr_countCrossings) (h_Dr_countNodePairs : ct_ok l D kA GG y_Dr_countNodePairs z_Dr_countNodePairs e_Dr_countNodePairs) (h_Dr_countSlanted : ct_ok l D kA GG y_Dr_countSlanted z_Dr_countSlanted e_Dr_countSlanted) (h_Dr_countStruckNodes : ct_ok l D kA GG y_Dr_countStruckNodes z_Dr_countStruckNodes e_Dr_countStruckNodes) (h_Dr_countUpward : ct_ok l D kA GG y_Dr_countUpward z_Dr_countUpward e_Dr_countUpward) (h_Dr_leastTriangle : ct_ok l D kA GG y_Dr_leastTriangle z_Dr_leastTriangle e_Dr_leastTriangle) (h_Dr_wholeArea : ct_ok l D kA GG y_Dr_wholeArea z_Dr_wholeArea e_Dr_wholeArea) (h_Dr_wholeLength : ct_ok l D kA GG y_Dr_wholeLength z_Dr_wholeLength e_Dr_wholeLength) : ct_ok l D kA GG y_Dr_verdict z_Dr_verdict e_Dr_verdict := chk_all_ok (FT := []) (PT := []) (CT := t_Dr_verdict_ct) (KT := [(2, 189, .long (-1), (1, -1, -1, []))]) (NT := []) (AN := n_Dr_verdict_an) (OT := []) 0 200 (List.forall_mem_nil _) (by decide +kernel) ⟨List.forall_mem_nil _, List.forall_mem_nil _, List.forall_mem_cons.mpr ⟨cl_virtual (y := y_Dr_countCrossings) (ci := 0) rfl rfl ⟨_, _, rfl⟩ (by decide +kernel) h_Dr_countCrossings wm_2013 wm_8 wm_2010 wm_2012 wv_9_11 ⟨by decide, by decide, by decide +kernel⟩ (by decide), List.forall_mem_cons.mpr ⟨cl_virtual (y := y_Dr_countNodePairs) (ci := 0) rfl rfl ⟨_, _, rfl⟩ (by decide +kernel) h_Dr_countNodePairs wm_2038 wm_8 wm_2035 wm_2037 wv_10_0 ⟨by decide, by decide, by decide +kernel⟩ (by decide), List.forall_mem_cons.mpr ⟨cl_virtual (y := y_Dr_countStruckNodes) (ci := 0) rfl rfl ⟨_, _, rfl⟩ (by decide +kernel) h_Dr_countStruckNodes wm_2042 wm_8 wm_2039 wm_2041 wv_10_1 ⟨by decide, by decide, by decide +kernel⟩ (by decide), List.forall_mem_cons.mpr ⟨cl_virtual (y := y_Dr_countUpward) (ci := 0) rfl rfl ⟨_, _, rfl⟩ (by decide +kernel) h_Dr_countUpward wm_2050 wm_8 wm_2047 wm_2049 wv_10_3 ⟨by decide, by decide, by decide +kernel⟩ (by decide), List.forall_mem_cons.mpr ⟨cl_virtual (y := y_Dr_countBends) (ci := 0) rfl rfl ⟨_, _, rfl⟩ (by decide +kernel) h_Dr_countBends wm_2054 wm_8 wm_2051 wm_2053 wv_10_4 ⟨by decide, by decide, by decide +kernel⟩ (by decide), List.forall_mem_cons.mpr ⟨cl_virtual (y := y_Dr_countSlanted) (ci := 0) rfl rfl ⟨_, _, rfl⟩ (by decide +kernel) h_Dr_countSlanted wm_2058 wm_8 wm_2055 wm_2057 wv_10_5 ⟨by decide, by decide, by decide +kernel⟩ (by decide), List.forall_mem_cons.mpr ⟨cl_virtual (y := y_Dr_wholeArea) (ci := 0) rfl rfl ⟨_, _, rfl⟩ (by decide +kernel) h_Dr_wholeArea wm_2062 wm_8 wm_2059 wm_2061 wv_10_6 ⟨by decide, by decide, by decide +kernel⟩ (by decide), List.forall_mem_cons.mpr ⟨cl_virtual (y := y_Dr_wholeLength) (ci := 0) rfl rfl ⟨_, _, rfl⟩ (by decide +kernel) h_Dr_wholeLength wm_2074 wm_8 wm_2071 wm_2073 wv_10_8 ⟨by decide, by decide, by decide +kernel⟩ (by decide), List.forall_mem_cons.mpr ⟨cl_virtual (y := y_Dr_leastTriangle) (ci := 0) rfl rfl ⟨_, _, rfl⟩ (by decide +kernel) h_Dr_leastTriangle wm_2078 wm_8 wm_2075 wm_2077 wv_10_9 ⟨by decide, by decide, by decide +kernel⟩ (by decide), List.forall_mem_nil _⟩⟩⟩⟩⟩⟩⟩⟩⟩, List.forall_mem_cons.mpr ⟨⟨kt_mk2 wm_2079, fun _ => Or.inr (Or.inl ⟨rfl, _, rfl, by decide, by decide⟩)⟩, List.forall_mem_nil _⟩, List.forall_mem_nil _⟩ (by decide +kernel)
def n_Pn_layGrid_an : List an_T := [(32, [(0, (2, 0, 0, [7])), (1, (2, 0, 0, [2])), (2, (2, 0, 0, [5])), (3, (2, 0, 0, [0])), (4, (0, 0, 2147483647, [])), (5, (0, 0, 24, []))], [], (0, 0), [(0, 0, 99968), (1, 5, 24), (0, 0, 100000)], [], [], [], 0, [], []), (67, [(0, (2, 0, 0, [7])), (1, (2, 0, 0, [2])), (2, (2, 0, 0, [5])), (3, (2, 0, 0, [0])), (4, (0, 0, 2147483647, [])), (5, (0, 0, 24, []))], [], (0, 0), [(0, 0, 99933), (1, 5, 24), (0, 0, 100000)], [], [], [], 0, [], [])]
def t_Pn_layGrid_ct : ct_L := [(1, 68, e_Ne_copyFrom), (1, 72, e_Pn_joinParts), (1, 76, e_Pn_fillFaces), (1, 79, e_Pn_findOrder), (1, 82, e_Pn_placeByOrder), (1, 98, e_Dr_dropBends), (162, 92, e_jMath_max1_v139), (162, 92, e_jMath_max1_v140)]
set_option maxRecDepth 100000 in
theorem c_Pn_layGrid {l : Launch} {D : va_G} {kA : Nat → ClassId} (h_Dr_dropBends : ct_ok l D kA GG y_Dr_dropBends z_Dr_dropBends e_Dr_dropBends) (h_Ne_copyFrom : ct_ok l D kA GG y_Ne_copyFrom z_Ne_copyFrom e_Ne_copyFrom) (h_Pn_fillFaces : ct_ok l D kA GG y_Pn_fillFaces z_Pn_fillFaces e_Pn_fillFaces) (h_Pn_findOrder : ct_ok l D kA GG y_Pn_findOrder z_Pn_findOrder e_Pn_findOrder) (h_Pn_joinParts : ct_ok l D kA GG y_Pn_joinParts z_Pn_joinParts e_Pn_joinParts) (h_Pn_placeByOrder : ct_ok l D kA GG y_Pn_placeByOrder z_Pn_placeByOrder e_Pn_placeByOrder) : ct_ok l D kA GG y_Pn_layGrid z_Pn_layGrid e_Pn_layGrid := chk_all_ok (FT := [(12, 7, 0), (86, 5, 5), (87, 0, 3)]) (PT := []) (CT := t_Pn_layGrid_ct) (KT := []) (NT := []) (AN := n_Pn_layGrid_an) (OT := []) 3 216 (List.forall_mem_nil _) (by decide +kernel) ⟨List.forall_mem_cons.mpr ⟨gf_Pn_12, List.forall_mem_cons.mpr ⟨gf_Pn_86, List.forall_mem_cons.mpr ⟨gf_Pn_87, List.forall_mem_nil _⟩⟩⟩, List.forall_mem_nil _, List.forall_mem_cons.mpr ⟨cl_virtual (y := y_Ne_copyFrom) (ci := 5) rfl rfl ⟨_, _, rfl⟩ (by decide +kernel) h_Ne_copyFrom wm_1512 wm_6 wm_1509 wm_1510 wm_1511 ⟨by decide, by decide, by decide +kernel⟩ (by decide), List.forall_mem_cons.mpr ⟨cl_virtual (y := y_Pn_joinParts) (ci := 7) rfl rfl ⟨_, _, rfl⟩ (by decide +kernel) h_Pn_joinParts wm_1517 wm_20 wm_1514 wm_1516 wv_6_5 ⟨by decide, by decide, by decide +kernel⟩ (by decide), List.forall_mem_cons.mpr ⟨cl_virtual (y := y_Pn_fillFaces) (ci := 7) rfl rfl ⟨_, _, rfl⟩ (by decide +kernel) h_Pn_fillFaces wm_1535 wm_20 wm_1532 wm_1534 wv_6_6 ⟨by decide, by decide, by decide +kernel⟩ (by decide), List.forall_mem_cons.mpr ⟨cl_virtual (y := y_Pn_findOrder) (ci := 7) rfl rfl ⟨_, _, rfl⟩ (by decide +kernel) h_Pn_findOrder wm_1550 wm_20 wm_1547 wm_1549 wv_6_9 ⟨by decide, by decide, by decide +kernel⟩ (by decide), List.forall_mem_cons.mpr ⟨cl_virtual (y := y_Pn_placeByOrder) (ci := 7) rfl rfl ⟨_, _, rfl⟩ (by decide +kernel) h_Pn_placeByOrder wm_1569 wm_20 wm_1566 wm_1568 wv_6_13 ⟨by decide, by decide, by decide +kernel⟩ (by decide), List.forall_mem_cons.mpr ⟨cl_virtual (y := y_Dr_dropBends) (ci := 0) rfl rfl ⟨_, _, rfl⟩ (by decide +kernel) h_Dr_dropBends wm_1460 wm_8 wm_1579 wm_1458 wm_1459 ⟨by decide, by decide, by decide +kernel⟩ (by decide), List.forall_mem_cons.mpr ⟨cl_static (y := y_jMath_max1) c_jMath_max1_v139 wm_836 wm_10 wm_1574 wm_835 ⟨by decide, by decide, by decide +kernel⟩ (by decide), List.forall_mem_cons.mpr ⟨cl_static (y := y_jMath_max1) c_jMath_max1_v140 wm_836 wm_10 wm_1574 wm_835 ⟨by decide, by decide, by decide +kernel⟩ (by decide), List.forall_mem_nil _⟩⟩⟩⟩⟩⟩⟩⟩, List.forall_mem_nil _, List.forall_mem_nil _⟩ (by decide +kernel)
def n_Mo_prepare_an : List an_T := [(6, [(0, (2, 0, 0, [150])), (1, (0, 0, 48, []))], [], (0, 0), [(0, 0, 99994), (1, 1, 48), (0, 0, 100000)], [], [], [], 0, [], []), (43, [(0, (2, 0, 0, [150])), (1, (0, 0, 80, [])), (2, (0, 0, 24, []))], [], (0, 0), [(0, 0, 99957), (1, 2, 24), (0, 0, 100000)], [], [], [], 0, [], [])]
def t_Mo_prepare_ct : ct_L := [(1, 401, e_Mo_edges), (1, 475, e_Mo_nodes), (1, 550, e_Mo_farFrom), (1, 668, e_Mo_blocks), (1, 689, e_Mo_plane), (1, 731, e_Mo_blocksOf), (1, 734, e_Mo_core), (1, 813, e_Mo_turnEdges)]
set_option maxRecDepth 100000 in
theorem c_Mo_prepare {l : Launch} {D : va_G} {kA : Nat → ClassId} (h_Mo_blocks : ct_ok l D kA GG y_Mo_blocks z_Mo_blocks e_Mo_blocks) (h_Mo_blocksOf : ct_ok l D kA GG y_Mo_blocksOf z_Mo_blocksOf e_Mo_blocksOf) (h_Mo_core : ct_ok l D kA GG y_Mo_core z_Mo_core e_Mo_core) (h_Mo_edges : ct_ok l D kA GG y_Mo_edges z_Mo_edges e_Mo_edges) (h_Mo_farFrom : ct_ok l D kA GG y_Mo_farFrom z_Mo_farFrom e_Mo_farFrom) (h_Mo_nodes : ct_ok l D kA GG y_Mo_nodes z_Mo_nodes e_Mo_nodes) (h_Mo_plane : ct_ok l D kA GG y_Mo_plane z_Mo_plane e_Mo_plane) (h_Mo_turnEdges : ct_ok l D kA GG y_Mo_turnEdges z_Mo_turnEdges e_Mo_turnEdges) : ct_ok l D kA GG y_Mo_prepare z_Mo_prepare e_Mo_prepare := chk_all_ok (FT := [(210, 13, 95), (354, 13, 166), (357, 13, 167), (360, 13, 168)]) (PT := []) (CT := t_Mo_prepare_ct) (KT := []) (NT := []) (AN := n_Mo_prepare_an) (OT := []) 3 212 (List.forall_mem_nil _) (by decide +kernel) ⟨List.forall_mem_cons.mpr ⟨gf_Mo_210, List.forall_mem_cons.mpr ⟨gf_Mo_354, List.forall_mem_cons.mpr ⟨gf_Mo_357, List.forall_mem_cons.mpr ⟨gf_Mo_360, List.forall_mem_nil _⟩⟩⟩⟩, List.forall_mem_nil _, List.forall_mem_cons.mpr ⟨cl_virtual (y := y_Mo_edges) (ci := 13) rfl rfl ⟨_, _, rfl⟩ (by decide +kernel) h_Mo_edges wm_3037 wm_9 wm_3034 wm_3036 wv_13_6 ⟨by decide, by decide, by decide +kernel⟩ (by decide), List.forall_mem_cons.mpr ⟨cl_virtual (y := y_Mo_nodes) (ci := 13) rfl rfl ⟨_, _, rfl⟩ (by decide +kernel) h_Mo_nodes wm_3025 wm_9 wm_3022 wm_3024 wv_13_3 ⟨by decide, by decide, by decide +kernel⟩ (by decide), List.forall_mem_cons.mpr ⟨cl_virtual (y := y_Mo_farFrom) (ci := 13) rfl rfl ⟨_, _, rfl⟩ (by decide +kernel) h_Mo_farFrom wm_3287 wm_9 wm_3284 wm_3286 wv_16_12 ⟨by decide, by decide, by decide +kernel⟩ (by decide), List.forall_mem_cons.mpr ⟨cl_virtual (y := y_Mo_blocks) (ci := 13) rfl rfl ⟨_, _, rfl⟩ (by decide +kernel) h_Mo_blocks wm_3155 wm_9 wm_3152 wm_3154 wv_14_14 ⟨by decide, by decide, by decide +kernel⟩ (by decide), List.forall_mem_cons.mpr ⟨cl_virtual (y := y_Mo_plane) (ci := 13) rfl rfl ⟨_, _, rfl⟩ (by decide +kernel) h_Mo_plane wm_3147 wm_9 wm_3144 wm_3146 wv_14_12 ⟨by decide, by decide, by decide +kernel⟩ (by decide), List.forall_mem_cons.mpr ⟨cl_virtual (y := y_Mo_blocksOf) (ci := 13) rfl rfl ⟨_, _, rfl⟩ (by decide +kernel) h_Mo_blocksOf wm_3319 wm_9 wm_3316 wm_3318 wv_17_3 ⟨by decide, by decide, by decide +kernel⟩ (by decide), List.forall_mem_cons.mpr ⟨cl_virtual (y := y_Mo_core) (ci := 13) rfl rfl ⟨_, _, rfl⟩ (by decide +kernel) h_Mo_core wm_3323 wm_9 wm_3320 wm_3322 wv_17_4 ⟨by decide, by decide, by decide +kernel⟩ (by decide), List.forall_mem_cons.mpr ⟨cl_virtual (y := y_Mo_turnEdges) (ci := 13) rfl rfl ⟨_, _, rfl⟩ (by decide +kernel) h_Mo_turnEdges wm_3375 wm_9 wm_3372 wm_3374 wv_17_12 ⟨by decide, by decide, by decide +kernel⟩ (by decide), List.forall_mem_nil _⟩⟩⟩⟩⟩⟩⟩⟩, List.forall_mem_nil _, List.forall_mem_nil _⟩ (by decide +kernel)
def n_Ho_judge_an : List an_T := []
def t_Ho_judge_ct : ct_L := [(1, 323, e_Ho_hasDrawing), (1, 336, e_Dr_verdict)]
set_option maxRecDepth 100000 in
theorem c_Ho_judge {l : Launch} {D : va_G} {kA : Nat → ClassId} (h_Dr_verdict : ct_ok l D kA GG y_Dr_verdict z_Dr_verdict e_Dr_verdict) (h_Ho_hasDrawing : ct_ok l D kA GG y_Ho_hasDrawing z_Ho_hasDrawing e_Ho_hasDrawing) : ct_ok l D kA GG y_Ho_judge z_Ho_judge e_Ho_judge := chk_all_ok (FT := [(31, 12, 3)]) (PT := []) (CT := t_Ho_judge_ct) (KT := [(2, 340, .long (-1), (1, -1, -1, []))]) (NT := []) (AN := n_Ho_judge_an) (OT := []) 0 200 (List.forall_mem_nil _) (by decide +kernel) ⟨List.forall_mem_cons.mpr ⟨gf_Ho_31, List.forall_mem_nil _⟩, List.forall_mem_nil _, List.forall_mem_cons.mpr ⟨cl_virtual (y := y_Ho_hasDrawing) (ci := 12) rfl rfl ⟨_, _, rfl⟩ (by decide +kernel) h_Ho_hasDrawing wm_1859 wm_1 wm_1856 wm_1858 wv_8_15 ⟨by decide, by decide, by decide +kernel⟩ (by decide), List.forall_mem_cons.mpr ⟨cl_virtual (y := y_Dr_verdict) (ci := 0) rfl rfl ⟨_, _, rfl⟩ (by decide +kernel) h_Dr_verdict wm_2009 wm_8 wm_2006 wm_2007 wm_2008 ⟨by decide, by decide, by decide +kernel⟩ (by decide), List.forall_mem_nil _⟩⟩, List.forall_mem_cons.mpr ⟨⟨kt_mk2 wm_2084, fun _ => Or.inr (Or.inl ⟨rfl, _, rfl, by decide, by decide⟩)⟩, List.forall_mem_nil _⟩, List.forall_mem_nil _⟩ (by decide +kernel)
def n_Fa_learn_an : List an_T := []
def t_Fa_learn_ct : ct_L := [(1, 60, e_Fa_learnParts), (1, 85, e_Fa_learnBlocksAt), (1, 88, e_Fa_learnStrong), (1, 91, e_Fa_learnCore), (1, 94, e_Fa_learnTurned), (108, 81, e_Fa_blocksOf_at_Grtail_Grhead_Grnear_Fablock)]
set_option maxRecDepth 100000 in
theorem c_Fa_learn {l : Launch} {D : va_G} {kA : Nat → ClassId} (h_Fa_blocksOf_at_Grtail_Grhead_Grnear_Fablock : ct_ok l D kA GG y_Fa_blocksOf_at_Grtail_Grhead_Grnear_Fablock z_Fa_blocksOf_at_Grtail_Grhead_Grnear_Fablock e_Fa_blocksOf_at_Grtail_Grhead_Grnear_Fablock) (h_Fa_learnBlocksAt : ct_ok l D kA GG y_Fa_learnBlocksAt z_Fa_learnBlocksAt e_Fa_learnBlocksAt) (h_Fa_learnCore : ct_ok l D kA GG y_Fa_learnCore z_Fa_learnCore e_Fa_learnCore) (h_Fa_learnParts : ct_ok l D kA GG y_Fa_learnParts z_Fa_learnParts e_Fa_learnParts) (h_Fa_learnStrong : ct_ok l D kA GG y_Fa_learnStrong z_Fa_learnStrong e_Fa_learnStrong) (h_Fa_learnTurned : ct_ok l D kA GG y_Fa_learnTurned z_Fa_learnTurned e_Fa_learnTurned) : ct_ok l D kA GG y_Fa_learn z_Fa_learn e_Fa_learn := chk_all_ok (FT := [(29, 2, 5), (64, 3, 0), (69, 3, 1), (72, 3, 7), (75, 3, 8), (78, 3, 14)]) (PT := [(9, 2, 0, .boolean), (19, 2, 2, .int)]) (CT := t_Fa_learn_ct) (KT := []) (NT := []) (AN := n_Fa_learn_an) (OT := []) 0 200 (List.forall_mem_nil _) (by decide +kernel) ⟨List.forall_mem_cons.mpr ⟨gf_Fa_29, List.forall_mem_cons.mpr ⟨gf_Fa_64, List.forall_mem_cons.mpr ⟨gf_Fa_69, List.forall_mem_cons.mpr ⟨gf_Fa_72, List.forall_mem_cons.mpr ⟨gf_Fa_75, List.forall_mem_cons.mpr ⟨gf_Fa_78, List.forall_mem_nil _⟩⟩⟩⟩⟩⟩, List.forall_mem_cons.mpr ⟨pf_Fa_9, List.forall_mem_cons.mpr ⟨pf_Fa_19, List.forall_mem_nil _⟩⟩, List.forall_mem_cons.mpr ⟨cl_virtual (y := y_Fa_learnParts) (ci := 2) rfl rfl ⟨_, _, rfl⟩ (by decide +kernel) h_Fa_learnParts wm_818 wm_7 wm_815 wm_817 wv_1_15 ⟨by decide, by decide, by decide +kernel⟩ (by decide), List.forall_mem_cons.mpr ⟨cl_virtual (y := y_Fa_learnBlocksAt) (ci := 2) rfl rfl ⟨_, _, rfl⟩ (by decide +kernel) h_Fa_learnBlocksAt wm_844 wm_7 wm_841 wm_843 wv_2_0 ⟨by decide, by decide, by decide +kernel⟩ (by decide), List.forall_mem_cons.mpr ⟨cl_virtual (y := y_Fa_learnStrong) (ci := 2) rfl rfl ⟨_, _, rfl⟩ (by decide +kernel) h_Fa_learnStrong wm_854 wm_7 wm_851 wm_853 wv_2_1 ⟨by decide, by decide, by decide +kernel⟩ (by decide), List.forall_mem_cons.mpr ⟨cl_virtual (y := y_Fa_learnCore) (ci := 2) rfl rfl ⟨_, _, rfl⟩ (by decide +kernel) h_Fa_learnCore wm_863 wm_7 wm_860 wm_862 wv_2_3 ⟨by decide, by decide, by decide +kernel⟩ (by decide), List.forall_mem_cons.mpr ⟨cl_virtual (y := y_Fa_learnTurned) (ci := 2) rfl rfl ⟨_, _, rfl⟩ (by decide +kernel) h_Fa_learnTurned wm_877 wm_7 wm_874 wm_876 wv_2_5 ⟨by decide, by decide, by decide +kernel⟩ (by decide), List.forall_mem_cons.mpr ⟨cl_static (y := y_Fa_blocksOf_at_Grtail_Grhead_Grnear_Fablock) h_Fa_blocksOf_at_Grtail_Grhead_Grnear_Fablock wm_830 wm_7 wm_828 wm_829 ⟨by decide, by decide, by decide +kernel⟩ (by decide), List.forall_mem_nil _⟩⟩⟩⟩⟩⟩, List.forall_mem_nil _, List.forall_mem_nil _⟩ (by decide +kernel)
def n_Ho_learned_an : List an_T := []
def t_Ho_learned_ct : ct_L := [(1, 416, e_Fa_learn)]
set_option maxRecDepth 100000 in
theorem c_Ho_learned {l : Launch} {D : va_G} {kA : Nat → ClassId} (h_Fa_learn : ct_ok l D kA GG y_Fa_learn z_Fa_learn e_Fa_learn) : ct_ok l D kA GG y_Ho_learned z_Ho_learned e_Ho_learned := chk_all_ok (FT := [(13, 12, 0), (19, 12, 1), (407, 2, 0)]) (PT := []) (CT := t_Ho_learned_ct) (KT := []) (NT := []) (AN := n_Ho_learned_an) (OT := []) 0 200 (List.forall_mem_nil _) (by decide +kernel) ⟨List.forall_mem_cons.mpr ⟨gf_Ho_13, List.forall_mem_cons.mpr ⟨gf_Ho_19, List.forall_mem_cons.mpr ⟨gf_Ho_407, List.forall_mem_nil _⟩⟩⟩, List.forall_mem_nil _, List.forall_mem_cons.mpr ⟨cl_virtual (y := y_Fa_learn) (ci := 2) rfl rfl ⟨_, _, rfl⟩ (by decide +kernel) h_Fa_learn wm_814 wm_7 wm_811 wm_812 wm_813 ⟨by decide, by decide, by decide +kernel⟩ (by decide), List.forall_mem_nil _⟩, List.forall_mem_nil _, List.forall_mem_nil _⟩ (by decide +kernel)
def n_Mo_node_an : List an_T := []
def t_Mo_node_ct : ct_L := [(0, 387, e_Mo_in), (0, 521, e_Mo_isPlace), (1, 475, e_Mo_nodes), (1, 478, e_Mo_longOf), (1, 527, e_Mo_take), (1, 668, e_Mo_blocks), (1, 689, e_Mo_plane), (1, 716, e_Mo_parts), (1, 719, e_Mo_strong), (1, 723, e_Mo_size), (1, 725, e_Mo_groupOf), (1, 728, e_Mo_neighbours), (1, 731, e_Mo_blocksOf), (1, 734, e_Mo_core)]
set_option maxRecDepth 100000 in
theorem c_Mo_node {l : Launch} {D : va_G} {kA : Nat → ClassId} (h_Mo_blocks : ct_ok l D kA GG y_Mo_blocks z_Mo_blocks e_Mo_blocks) (h_Mo_blocksOf : ct_ok l D kA GG y_Mo_blocksOf z_Mo_blocksOf e_Mo_blocksOf) (h_Mo_core : ct_ok l D kA GG y_Mo_core z_Mo_core e_Mo_core) (h_Mo_groupOf : ct_ok l D kA GG y_Mo_groupOf z_Mo_groupOf e_Mo_groupOf) (h_Mo_in : ct_ok l D kA GG y_Mo_in z_Mo_in e_Mo_in) (h_Mo_isPlace : ct_ok l D kA GG y_Mo_isPlace z_Mo_isPlace e_Mo_isPlace) (h_Mo_longOf : ct_ok l D kA GG y_Mo_longOf z_Mo_longOf e_Mo_longOf) (h_Mo_neighbours : ct_ok l D kA GG y_Mo_neighbours z_Mo_neighbours e_Mo_neighbours) (h_Mo_nodes : ct_ok l D kA GG y_Mo_nodes z_Mo_nodes e_Mo_nodes) (h_Mo_parts : ct_ok l D kA GG y_Mo_parts z_Mo_parts e_Mo_parts) (h_Mo_plane : ct_ok l D kA GG y_Mo_plane z_Mo_plane e_Mo_plane) (h_Mo_size : ct_ok l D kA GG y_Mo_size z_Mo_size e_Mo_size) (h_Mo_strong : ct_ok l D kA GG y_Mo_strong z_Mo_strong e_Mo_strong) (h_Mo_take : ct_ok l D kA GG y_Mo_take z_Mo_take e_Mo_take) : ct_ok l D kA GG y_Mo_node z_Mo_node e_Mo_node := chk_all_ok (FT := [(29, 13, 16), (35, 13, 18)]) (PT := []) (CT := t_Mo_node_ct) (KT := []) (NT := []) (AN := n_Mo_node_an) (OT := []) 0 304 (List.forall_mem_nil _) (by decide +kernel) ⟨List.forall_mem_cons.mpr ⟨gf_Mo_29, List.forall_mem_cons.mpr ⟨gf_Mo_35, List.forall_mem_nil _⟩⟩, List.forall_mem_nil _, List.forall_mem_cons.mpr ⟨cl_static (y := y_Mo_in) h_Mo_in wm_2971 wm_9 wm_2969 wm_2970 ⟨by decide, by decide, by decide +kernel⟩ (by decide), List.forall_mem_cons.mpr ⟨cl_static (y := y_Mo_isPlace) h_Mo_isPlace wm_2978 wm_9 wm_2976 wm_2977 ⟨by decide, by decide, by decide +kernel⟩ (by decide), List.forall_mem_cons.mpr ⟨cl_virtual (y := y_Mo_nodes) (ci := 13) rfl rfl ⟨_, _, rfl⟩ (by decide +kernel) h_Mo_nodes wm_3025 wm_9 wm_3022 wm_3024 wv_13_3 ⟨by decide, by decide, by decide +kernel⟩ (by decide), List.forall_mem_cons.mpr ⟨cl_virtual (y := y_Mo_longOf) (ci := 13) rfl rfl ⟨_, _, rfl⟩ (by decide +kernel) h_Mo_longOf wm_3029 wm_9 wm_3026 wm_3028 wv_13_4 ⟨by decide, by decide, by decide +kernel⟩ (by decide), List.forall_mem_cons.mpr ⟨cl_virtual (y := y_Mo_take) (ci := 13) rfl rfl ⟨_, _, rfl⟩ (by decide +kernel) h_Mo_take wm_3091 wm_9 wm_3088 wm_3090 wv_14_2 ⟨by decide, by decide, by decide +kernel⟩ (by decide), List.forall_mem_cons.mpr ⟨cl_virtual (y := y_Mo_blocks) (ci := 13) rfl rfl ⟨_, _, rfl⟩ (by decide +kernel) h_Mo_blocks wm_3155 wm_9 wm_3152 wm_3154 wv_14_14 ⟨by decide, by decide, by decide +kernel⟩ (by decide), List.forall_mem_cons.mpr ⟨cl_virtual (y := y_Mo_plane) (ci := 13) rfl rfl ⟨_, _, rfl⟩ (by decide +kernel) h_Mo_plane wm_3147 wm_9 wm_3144 wm_3146 wv_14_12 ⟨by decide, by decide, by decide +kernel⟩ (by decide), List.forall_mem_cons.mpr ⟨cl_virtual (y := y_Mo_parts) (ci := 13) rfl rfl ⟨_, _, rfl⟩ (by decide +kernel) h_Mo_parts wm_3283 wm_9 wm_3280 wm_3282 wv_16_11 ⟨by decide, by decide, by decide +kernel⟩ (by decide), List.forall_mem_cons.mpr ⟨cl_virtual (y := y_Mo_strong) (ci := 13) rfl rfl ⟨_, _, rfl⟩ (by decide +kernel) h_Mo_strong wm_3291 wm_9 wm_3288 wm_3290 wv_16_13 ⟨by decide, by decide, by decide +kernel⟩ (by decide), List.forall_mem_cons.mpr ⟨cl_virtual (y := y_Mo_size) (ci := 13) rfl rfl ⟨_, _, rfl⟩ (by decide +kernel) h_Mo_size wm_3307 wm_9 wm_3304 wm_3306 wv_17_0 ⟨by decide, by decide, by decide +kernel⟩ (by decide), List.forall_mem_cons.mpr ⟨cl_virtual (y := y_Mo_groupOf) (ci := 13) rfl rfl ⟨_, _, rfl⟩ (by decide +kernel) h_Mo_groupOf wm_3311 wm_9 wm_3308 wm_3310 wv_17_1 ⟨by decide, by decide, by decide +kernel⟩ (by decide), List.forall_mem_cons.mpr ⟨cl_virtual (y := y_Mo_neighbours) (ci := 13) rfl rfl ⟨_, _, rfl⟩ (by decide +kernel) h_Mo_neighbours wm_3315 wm_9 wm_3312 wm_3314 wv_17_2 ⟨by decide, by decide, by decide +kernel⟩ (by decide), List.forall_mem_cons.mpr ⟨cl_virtual (y := y_Mo_blocksOf) (ci := 13) rfl rfl ⟨_, _, rfl⟩ (by decide +kernel) h_Mo_blocksOf wm_3319 wm_9 wm_3316 wm_3318 wv_17_3 ⟨by decide, by decide, by decide +kernel⟩ (by decide), List.forall_mem_cons.mpr ⟨cl_virtual (y := y_Mo_core) (ci := 13) rfl rfl ⟨_, _, rfl⟩ (by decide +kernel) h_Mo_core wm_3323 wm_9 wm_3320 wm_3322 wv_17_4 ⟨by decide, by decide, by decide +kernel⟩ (by decide), List.forall_mem_nil _⟩⟩⟩⟩⟩⟩⟩⟩⟩⟩⟩⟩⟩⟩, List.forall_mem_nil _, List.forall_mem_nil _⟩ (by decide +kernel)
def n_Em_embed_an : List an_T := [(50, [(0, (2, 0, 0, [1])), (1, (2, 0, 0, [5, 149])), (2, (0, 0, 72, [])), (3, (0, 0, 72, []))], [], (0, 0), [(0, 0, 99950), (1, 3, 72), (0, 0, 100000), (0, 0, 0), (0, 0, 0)], [], [((0, 0), (2, 0, 0, [5, 149]))], [], 0, [], []), (65, [(0, (2, 0, 0, [1])), (1, (2, 0, 0, [5, 149])), (2, (0, 1, 72, [])), (3, (0, 0, 71, [])), (4, (0, -2147483648, 2147483647, [])), (5, (0, 0, 72, []))], [], (0, 0), [(0, 0, 99950), (1, 3, 72), (0, 0, 99935), (1, 5, 72), (0, 0, 100000)], [], [((0, 0), (2, 0, 0, [5, 149]))], [], 0, [], []), (127, [(0, (2, 0, 0, [1])), (1, (2, 0, 0, [5, 149])), (2, (0, 0, 72, [])), (3, (0, 0, 25, []))], [], (0, 0), [(0, 0, 99873), (1, 3, 25), (0, 0, 100000), (0, 0, 0), (0, 0, 0)], [], [((0, 0), (2, 0, 0, [5, 149]))], [], 0, [], [])]
def t_Em_embed_ct : ct_L := [(1, 142, e_Em_beginBlock), (1, 145, e_Em_pickPiece), (1, 149, e_Em_findWay), (1, 153, e_Em_splitCycle), (1, 156, e_Em_turnByCycles), (1, 159, e_Em_joinBlocksAt), (1, 163, e_Ne_traceFaces), (135, 136, e_Fa_blocksOf_at_Netail_Nptail_Nehead_Nphead_Nenear_Npnear_Emblock)]
set_option maxRecDepth 100000 in
theorem c_Em_embed {l : Launch} {D : va_G} {kA : Nat → ClassId} (h_Em_beginBlock : ct_ok l D kA GG y_Em_beginBlock z_Em_beginBlock e_Em_beginBlock) (h_Em_findWay : ct_ok l D kA GG y_Em_findWay z_Em_findWay e_Em_findWay) (h_Em_joinBlocksAt : ct_ok l D kA GG y_Em_joinBlocksAt z_Em_joinBlocksAt e_Em_joinBlocksAt) (h_Em_pickPiece : ct_ok l D kA GG y_Em_pickPiece z_Em_pickPiece e_Em_pickPiece) (h_Em_splitCycle : ct_ok l D kA GG y_Em_splitCycle z_Em_splitCycle e_Em_splitCycle) (h_Em_turnByCycles : ct_ok l D kA GG y_Em_turnByCycles z_Em_turnByCycles e_Em_turnByCycles) (h_Fa_blocksOf_at_Netail_Nptail_Nehead_Nphead_Nenear_Npnear_Emblock : ct_ok l D kA GG y_Fa_blocksOf_at_Netail_Nptail_Nehead_Nphead_Nenear_Npnear_Emblock z_Fa_blocksOf_at_Netail_Nptail_Nehead_Nphead_Nenear_Npnear_Emblock e_Fa_blocksOf_at_Netail_Nptail_Nehead_Nphead_Nenear_Npnear_Emblock) (h_Ne_traceFaces : ct_ok l D kA GG y_Ne_traceFaces z_Ne_traceFaces e_Ne_traceFaces) : ct_ok l D kA GG y_Em_embed z_Em_embed e_Em_embed := chk_all_ok (FT := [(9, 1, 0), (21, 1, 2), (63, 1, 15), (85, 5, 5), (114, 5, 9), (133, 5, 6), (134, 5, 7), (135, 5, 8)]) (PT := [(9, 1, 0, .object "DrawingHouse$Net")]) (CT := t_Em_embed_ct) (KT := []) (NT := []) (AN := n_Em_embed_an) (OT := []) 5 348 (List.forall_mem_nil _) (by decide +kernel) ⟨List.forall_mem_cons.mpr ⟨gf_Em_9, List.forall_mem_cons.mpr ⟨gf_Em_21, List.forall_mem_cons.mpr ⟨gf_Em_63, List.forall_mem_cons.mpr ⟨gf_Em_85, List.forall_mem_cons.mpr ⟨gf_Em_114, List.forall_mem_cons.mpr ⟨gf_Em_133, List.forall_mem_cons.mpr ⟨gf_Em_134, List.forall_mem_cons.mpr ⟨gf_Em_135, List.forall_mem_nil _⟩⟩⟩⟩⟩⟩⟩⟩, List.forall_mem_cons.mpr ⟨pf_Em_9, List.forall_mem_nil _⟩, List.forall_mem_cons.mpr ⟨cl_virtual (y := y_Em_beginBlock) (ci := 1) rfl rfl ⟨_, _, rfl⟩ (by decide +kernel) h_Em_beginBlock wm_1074 wm_5 wm_1071 wm_1073 wv_3_7 ⟨by decide, by decide, by decide +kernel⟩ (by decide), List.forall_mem_cons.mpr ⟨cl_virtual (y := y_Em_pickPiece) (ci := 1) rfl rfl ⟨_, _, rfl⟩ (by decide +kernel) h_Em_pickPiece wm_1093 wm_5 wm_1090 wm_1092 wv_3_10 ⟨by decide, by decide, by decide +kernel⟩ (by decide), List.forall_mem_cons.mpr ⟨cl_virtual (y := y_Em_findWay) (ci := 1) rfl rfl ⟨_, _, rfl⟩ (by decide +kernel) h_Em_findWay wm_1108 wm_5 wm_1105 wm_1107 wv_3_13 ⟨by decide, by decide, by decide +kernel⟩ (by decide), List.forall_mem_cons.mpr ⟨cl_virtual (y := y_Em_splitCycle) (ci := 1) rfl rfl ⟨_, _, rfl⟩ (by decide +kernel) h_Em_splitCycle wm_1113 wm_5 wm_1110 wm_1112 wv_3_14 ⟨by decide, by decide, by decide +kernel⟩ (by decide), List.forall_mem_cons.mpr ⟨cl_virtual (y := y_Em_turnByCycles) (ci := 1) rfl rfl ⟨_, _, rfl⟩ (by decide +kernel) h_Em_turnByCycles wm_1134 wm_5 wm_1131 wm_1133 wv_4_3 ⟨by decide, by decide, by decide +kernel⟩ (by decide), List.forall_mem_cons.mpr ⟨cl_virtual (y := y_Em_joinBlocksAt) (ci := 1) rfl rfl ⟨_, _, rfl⟩ (by decide +kernel) h_Em_joinBlocksAt wm_1142 wm_5 wm_1139 wm_1141 wv_4_4 ⟨by decide, by decide, by decide +kernel⟩ (by decide), List.forall_mem_cons.mpr ⟨cl_virtual (y := y_Ne_traceFaces) (ci := 5) rfl rfl ⟨_, _, rfl⟩ (by decide +kernel) h_Ne_traceFaces wm_1150 wm_6 wm_1147 wm_1148 wm_1149 ⟨by decide, by decide, by decide +kernel⟩ (by decide), List.forall_mem_cons.mpr ⟨cl_static (y := y_Fa_blocksOf_at_Netail_Nptail_Nehead_Nphead_Nenear_Npnear_Emblock) h_Fa_blocksOf_at_Netail_Nptail_Nehead_Nphead_Nenear_Npnear_Emblock wm_830 wm_7 wm_1070 wm_829 ⟨by decide, by decide, by decide +kernel⟩ (by decide), List.forall_mem_nil _⟩⟩⟩⟩⟩⟩⟩⟩, List.forall_mem_nil _, List.forall_mem_nil _⟩ (by decide +kernel)
def n_Mo_bar_an : List an_T := [(11, [(0, (2, 0, 0, [150])), (1, (0, -1, 79, []))], [], (0, 0), [(0, 0, 99989), (2, 1, -1), (0, 0, 100000), (0, 0, 0), (0, 0, 0)], [], [], [], 0, [], []), (49, [(0, (2, 0, 0, [150])), (1, (0, 0, 80, []))], [], (0, 0), [(0, 0, 99951), (1, 1, 80), (0, 0, 100000), (0, 0, 0), (0, 0, 0)], [(2, 1, -1000000000000, 0)], [((0, 58), (0, 0, 80, []))], [], 0, [], []), (99, [(0, (2, 0, 0, [150])), (1, (0, 0, 25, [])), (2, (0, 0, 25, []))], [], (0, 0), [(0, 0, 99901), (1, 2, 25), (0, 0, 100000), (0, 0, 0), (0, 0, 0)], [(1, 2, -1000000000000, 0)], [], [], 0, [], []), (112, [(0, (2, 0, 0, [150])), (1, (0, 0, 24, [])), (2, (0, 0, 24, [])), (3, (0, 0, 80, [])), (4, (0, 0, 80, []))], [], (0, 0), [(0, 0, 99901), (1, 2, 25), (0, 0, 99888), (1, 4, 80), (0, 0, 100000)], [(1, 2, -1000000000000, 0), (3, 4, -1000000000000, 0)], [], [], 0, [], [])]
def t_Mo_bar_ct : ct_L := [(1, 600, e_Mo_at1), (1, 689, e_Mo_plane), (1, 692, e_Mo_embed)]
set_option maxRecDepth 100000 in
theorem c_Mo_bar {l : Launch} {D : va_G} {kA : Nat → ClassId} (h_Mo_at1 : ct_ok l D kA GG y_Mo_at1 z_Mo_at1 e_Mo_at1) (h_Mo_embed : ct_ok l D kA GG y_Mo_embed z_Mo_embed e_Mo_embed) (h_Mo_plane : ct_ok l D kA GG y_Mo_plane z_Mo_plane e_Mo_plane) : ct_ok l D kA GG y_Mo_bar z_Mo_bar e_Mo_bar := chk_all_ok (FT := [(63, 13, 35), (117, 13, 60), (594, 13, 31), (597, 13, 32), (695, 13, 58)]) (PT := [(695, 13, 58, .int), (698, 13, 59, .int)]) (CT := t_Mo_bar_ct) (KT := []) (NT := []) (AN := n_Mo_bar_an) (OT := []) 5 468 (List.forall_mem_nil _) (by decide +kernel) ⟨List.forall_mem_cons.mpr ⟨gf_Mo_63, List.forall_mem_cons.mpr ⟨gf_Mo_117, List.forall_mem_cons.mpr ⟨gf_Mo_594, List.forall_mem_cons.mpr ⟨gf_Mo_597, List.forall_mem_cons.mpr ⟨gf_Mo_695, List.forall_mem_nil _⟩⟩⟩⟩⟩, List.forall_mem_cons.mpr ⟨pf_Mo_695, List.forall_mem_cons.mpr ⟨pf_Mo_698, List.forall_mem_nil _⟩⟩, List.forall_mem_cons.mpr ⟨cl_virtual (y := y_Mo_at1) (ci := 13) rfl rfl ⟨_, _, rfl⟩ (by decide +kernel) h_Mo_at1 wm_3159 wm_9 wm_3156 wm_3158 wv_14_15 ⟨by decide, by decide, by decide +kernel⟩ (by decide), List.forall_mem_cons.mpr ⟨cl_virtual (y := y_Mo_plane) (ci := 13) rfl rfl ⟨_, _, rfl⟩ (by decide +kernel) h_Mo_plane wm_3147 wm_9 wm_3144 wm_3146 wv_14_12 ⟨by decide, by decide, by decide +kernel⟩ (by decide), List.forall_mem_cons.mpr ⟨cl_virtual (y := y_Mo_embed) (ci := 13) rfl rfl ⟨_, _, rfl⟩ (by decide +kernel) h_Mo_embed wm_3151 wm_9 wm_3148 wm_3150 wv_14_13 ⟨by decide, by decide, by decide +kernel⟩ (by decide), List.forall_mem_nil _⟩⟩⟩, List.forall_mem_nil _, List.forall_mem_nil _⟩ (by decide +kernel)
def o_Mo_isOuter_0 : or_T := (6, 2, [(0, (2, 0, 0, [150])), (1, (0, 0, 0, []))], [(20, [0], [30, 48, 1, 1, 32]), (20, [0], [30, 24, 1, 1, 31])], [], [], [(20, [0, 1], [30, 48, 1, 1, 32, -1, 0, 0])], [], [])
theorem oo_Mo_isOuter_0 {kA : Nat → ClassId} : or_ok kA GG o_Mo_isOuter_0 := by
  intro A ta ws vs hD hth hl hk hds hf
  have hl : vs.length = 2 := hl
  have hk : ∀ q ∈ ([(0, (2, 0, 0, [150])), (1, (0, 0, 0, []))] : List (Nat × tv_T)), tv_ok ta q.2 (n_v vs q.1) := hk
  obtain ⟨t0, hk⟩ := List.forall_mem_cons.mp hk
  have t0 : tv_ok ta (2, 0, 0, [150]) (n_v vs 0) := t0
  have r0 : ta (v_ad (n_v vs 0)) = some 150 := tv_rg t0
  obtain ⟨t1, hk⟩ := List.forall_mem_cons.mp hk
  have t1 : tv_ok ta (0, 0, 0, []) (n_v vs 1) := t1
  have k1 : 0 ≤ v_iv (n_v vs 1) ∧ v_iv (n_v vs 1) ≤ 0 := tv_rng t1
  have hf : fc_ok [(20, [0], [30, 48, 1, 1, 32]), (20, [0], [30, 24, 1, 1, 31])] ta ws vs := hf
  obtain ⟨f0, hf⟩ := fc_un (by decide) hf
  have f0 : 1 * w_fi ws (n_v vs 0) 32 + 0 ≤ 48 := f0
  obtain ⟨f1, hf⟩ := fc_un (by decide) hf
  have f1 : 1 * w_fi ws (n_v vs 0) 31 + 0 ≤ 24 := f1
  have nf0 : fc_1 (20, [0, 1], [30, 48, 1, 1, 32, -1, 0, 0]) ws (vs) := by
    refine ⟨fun n hn => ?_, ?_⟩
    · have hn : n ∈ [0, 1] := hn
      rw [hl]
      simp only [List.mem_cons, List.not_mem_nil, or_false] at hn
      show n < 2; omega
    · show 1 * w_fi ws (n_v vs 0) 32 + ((-1) * v_iv (n_v vs 1) + 0) ≤ 48
      omega
  refine ⟨(fun _ h => (by cases h)), [], trivial, ?_, (fun _ h => (by cases h))⟩
  rw [List.append_nil]
  exact List.forall_mem_cons.mpr ⟨⟨by decide, nf0⟩, (fun _ h => (by cases h))⟩
def o_Mo_isOuter_1 : or_T := (68, 5, [(0, (2, 0, 0, [150])), (1, (0, 0, 24, [])), (3, (0, 0, 24, [])), (4, (0, 0, 25, []))], [(9, [4, 0], [31]), (7, [1, 3], [3]), (20, [3, 0], [30, 0, 1, 0, 0, -1, 3, 2005000]), (20, [3, 0], [30, 0, -1, 0, 0, 1, 3, 2005000]), (20, [0, 1], [30, 48, 1, 1, 32, -1, 0, 0]), (20, [0], [30, 24, 1, 1, 31])], [(4, (0, 0, 24, []))], [], [], [], [(1, 3, 0, 4294967296)])
theorem oo_Mo_isOuter_1 {kA : Nat → ClassId} : or_ok kA GG o_Mo_isOuter_1 := by
  intro A ta ws vs hD hth hl hk hds hf
  have hl : vs.length = 5 := hl
  have hk : ∀ q ∈ ([(0, (2, 0, 0, [150])), (1, (0, 0, 24, [])), (3, (0, 0, 24, [])), (4, (0, 0, 25, []))] : List (Nat × tv_T)), tv_ok ta q.2 (n_v vs q.1) := hk
  obtain ⟨t0, hk⟩ := List.forall_mem_cons.mp hk
  have t0 : tv_ok ta (2, 0, 0, [150]) (n_v vs 0) := t0
  have r0 : ta (v_ad (n_v vs 0)) = some 150 := tv_rg t0
  obtain ⟨t1, hk⟩ := List.forall_mem_cons.mp hk
  have t1 : tv_ok ta (0, 0, 24, []) (n_v vs 1) := t1
  have k1 : 0 ≤ v_iv (n_v vs 1) ∧ v_iv (n_v vs 1) ≤ 24 := tv_rng t1
  obtain ⟨t3, hk⟩ := List.forall_mem_cons.mp hk
  have t3 : tv_ok ta (0, 0, 24, []) (n_v vs 3) := t3
  have k3 : 0 ≤ v_iv (n_v vs 3) ∧ v_iv (n_v vs 3) ≤ 24 := tv_rng t3
  obtain ⟨t4, hk⟩ := List.forall_mem_cons.mp hk
  have t4 : tv_ok ta (0, 0, 25, []) (n_v vs 4) := t4
  have k4 : 0 ≤ v_iv (n_v vs 4) ∧ v_iv (n_v vs 4) ≤ 25 := tv_rng t4
  have hds : ∀ q ∈ ([(1, 3, 0, 4294967296)] : List of_T), n_iv vs q.2.1 + q.2.2.1 ≤ n_iv vs q.1 ∧ n_iv vs q.1 ≤ n_iv vs q.2.1 + q.2.2.2 := hds
  obtain ⟨d0, hds⟩ := List.forall_mem_cons.mp hds
  have d0 : v_iv (n_v vs 3) + 0 ≤ v_iv (n_v vs 1) ∧ v_iv (n_v vs 1) ≤ v_iv (n_v vs 3) + 4294967296 := d0
  have hf : fc_ok [(9, [4, 0], [31]), (7, [1, 3], [3]), (20, [3, 0], [30, 0, 1, 0, 0, -1, 3, 2005000]), (20, [3, 0], [30, 0, -1, 0, 0, 1, 3, 2005000]), (20, [0, 1], [30, 48, 1, 1, 32, -1, 0, 0]), (20, [0], [30, 24, 1, 1, 31])] ta ws vs := hf
  obtain ⟨f0, hf⟩ := fc_un (by decide) hf
  have f0 : n_v vs 4 = w_fd ws (v_ad (n_v vs 0)) 31 := f0
  obtain ⟨f1, hf⟩ := fc_un (by decide) hf
  have f1 : v_iv (n_v vs 3) ≤ v_iv (n_v vs 1) := f1
  obtain ⟨f2, hf⟩ := fc_un (by decide) hf
  have f2 : 1 * v_iv (n_v vs 3) + ((-1) * w_el ws (w_ar ws (n_v vs 0) 2) (w_fi ws (n_v vs 0) 5 + 0).toNat + 0) ≤ 0 := f2
  obtain ⟨f3, hf⟩ := fc_un (by decide) hf
  have f3 : (-1) * v_iv (n_v vs 3) + (1 * w_el ws (w_ar ws (n_v vs 0) 2) (w_fi ws (n_v vs 0) 5 + 0).toNat + 0) ≤ 0 := f3
  obtain ⟨f4, hf⟩ := fc_un (by decide) hf
  have f4 : 1 * w_fi ws (n_v vs 0) 32 + ((-1) * v_iv (n_v vs 1) + 0) ≤ 48 := f4
  obtain ⟨f5, hf⟩ := fc_un (by decide) hf
  have f5 : 1 * w_fi ws (n_v vs 0) 31 + 0 ≤ 24 := f5
  have cr_0_2 : ta (w_ar ws (n_v vs 0) 2) = some 152 := tv_rg (th_fd hD hth r0 (g := GG_150) rfl (k := 2) (t := (2, 0, 0, [152])) rfl rfl)
  have g0 : v_iv (n_v vs 4) = w_fi ws (n_v vs 0) 31 := congrArg v_iv f0
  have rf4 : tv_ok ta (0, 0, 24, []) (n_v vs 4) := tv_in t4 (by omega) (by omega)
  refine ⟨List.forall_mem_cons.mpr ⟨rf4, (fun _ h => (by cases h))⟩, [], trivial, ?_, (fun _ h => (by cases h))⟩
  rw [List.append_nil]
  exact (fun _ h => (by cases h))
def o_Mo_isOuter_2 : or_T := (22, 5, [(0, (2, 0, 0, [150])), (1, (0, 0, 23, [])), (2, (0, 0, 80, [])), (3, (0, 1, 24, []))], [(9, [2, 0], [32]), (7, [1, 3], [2]), (20, [3, 0], [30, 0, 1, 0, 0, -1, 3, 2005000]), (20, [3, 0], [30, 0, -1, 0, 0, 1, 3, 2005000]), (20, [0, 1], [30, 48, 1, 1, 32, -1, 0, 0]), (20, [0], [30, 24, 1, 1, 31])], [(2, (0, 0, 71, []))], [], [], [], [(1, 3, -4294967296, -1), (1, 2, -4294967296, 0), (2, 1, -4294967296, 80)])
theorem oo_Mo_isOuter_2 {kA : Nat → ClassId} : or_ok kA GG o_Mo_isOuter_2 := by
  intro A ta ws vs hD hth hl hk hds hf
  have hl : vs.length = 5 := hl
  have hk : ∀ q ∈ ([(0, (2, 0, 0, [150])), (1, (0, 0, 23, [])), (2, (0, 0, 80, [])), (3, (0, 1, 24, []))] : List (Nat × tv_T)), tv_ok ta q.2 (n_v vs q.1) := hk
  obtain ⟨t0, hk⟩ := List.forall_mem_cons.mp hk
  have t0 : tv_ok ta (2, 0, 0, [150]) (n_v vs 0) := t0
  have r0 : ta (v_ad (n_v vs 0)) = some 150 := tv_rg t0
  obtain ⟨t1, hk⟩ := List.forall_mem_cons.mp hk
  have t1 : tv_ok ta (0, 0, 23, []) (n_v vs 1) := t1
  have k1 : 0 ≤ v_iv (n_v vs 1) ∧ v_iv (n_v vs 1) ≤ 23 := tv_rng t1
  obtain ⟨t2, hk⟩ := List.forall_mem_cons.mp hk
  have t2 : tv_ok ta (0, 0, 80, []) (n_v vs 2) := t2
  have k2 : 0 ≤ v_iv (n_v vs 2) ∧ v_iv (n_v vs 2) ≤ 80 := tv_rng t2
  obtain ⟨t3, hk⟩ := List.forall_mem_cons.mp hk
  have t3 : tv_ok ta (0, 1, 24, []) (n_v vs 3) := t3
  have k3 : 1 ≤ v_iv (n_v vs 3) ∧ v_iv (n_v vs 3) ≤ 24 := tv_rng t3
  have hds : ∀ q ∈ ([(1, 3, -4294967296, -1), (1, 2, -4294967296, 0), (2, 1, -4294967296, 80)] : List of_T), n_iv vs q.2.1 + q.2.2.1 ≤ n_iv vs q.1 ∧ n_iv vs q.1 ≤ n_iv vs q.2.1 + q.2.2.2 := hds
  obtain ⟨d0, hds⟩ := List.forall_mem_cons.mp hds
  have d0 : v_iv (n_v vs 3) + (-4294967296) ≤ v_iv (n_v vs 1) ∧ v_iv (n_v vs 1) ≤ v_iv (n_v vs 3) + (-1) := d0
  obtain ⟨d1, hds⟩ := List.forall_mem_cons.mp hds
  have d1 : v_iv (n_v vs 2) + (-4294967296) ≤ v_iv (n_v vs 1) ∧ v_iv (n_v vs 1) ≤ v_iv (n_v vs 2) + 0 := d1
  obtain ⟨d2, hds⟩ := List.forall_mem_cons.mp hds
  have d2 : v_iv (n_v vs 1) + (-4294967296) ≤ v_iv (n_v vs 2) ∧ v_iv (n_v vs 2) ≤ v_iv (n_v vs 1) + 80 := d2
  have hf : fc_ok [(9, [2, 0], [32]), (7, [1, 3], [2]), (20, [3, 0], [30, 0, 1, 0, 0, -1, 3, 2005000]), (20, [3, 0], [30, 0, -1, 0, 0, 1, 3, 2005000]), (20, [0, 1], [30, 48, 1, 1, 32, -1, 0, 0]), (20, [0], [30, 24, 1, 1, 31])] ta ws vs := hf
  obtain ⟨f0, hf⟩ := fc_un (by decide) hf
  have f0 : n_v vs 2 = w_fd ws (v_ad (n_v vs 0)) 32 := f0
  obtain ⟨f1, hf⟩ := fc_un (by decide) hf
  have f1 : v_iv (n_v vs 1) < v_iv (n_v vs 3) := f1
  obtain ⟨f2, hf⟩ := fc_un (by decide) hf
  have f2 : 1 * v_iv (n_v vs 3) + ((-1) * w_el ws (w_ar ws (n_v vs 0) 2) (w_fi ws (n_v vs 0) 5 + 0).toNat + 0) ≤ 0 := f2
  obtain ⟨f3, hf⟩ := fc_un (by decide) hf
  have f3 : (-1) * v_iv (n_v vs 3) + (1 * w_el ws (w_ar ws (n_v vs 0) 2) (w_fi ws (n_v vs 0) 5 + 0).toNat + 0) ≤ 0 := f3
  obtain ⟨f4, hf⟩ := fc_un (by decide) hf
  have f4 : 1 * w_fi ws (n_v vs 0) 32 + ((-1) * v_iv (n_v vs 1) + 0) ≤ 48 := f4
  obtain ⟨f5, hf⟩ := fc_un (by decide) hf
  have f5 : 1 * w_fi ws (n_v vs 0) 31 + 0 ≤ 24 := f5
  have cr_0_2 : ta (w_ar ws (n_v vs 0) 2) = some 152 := tv_rg (th_fd hD hth r0 (g := GG_150) rfl (k := 2) (t := (2, 0, 0, [152])) rfl rfl)
  have g0 : v_iv (n_v vs 2) = w_fi ws (n_v vs 0) 32 := congrArg v_iv f0
  have rf2 : tv_ok ta (0, 0, 71, []) (n_v vs 2) := tv_in t2 (by omega) (by omega)
  refine ⟨List.forall_mem_cons.mpr ⟨rf2, (fun _ h => (by cases h))⟩, [], trivial, ?_, (fun _ h => (by cases h))⟩
  rw [List.append_nil]
  exact (fun _ h => (by cases h))
def o_Mo_isOuter_3 : or_T := (36, 7, [(0, (2, 0, 0, [150])), (1, (0, 0, 23, [])), (2, (0, 0, 71, [])), (3, (0, 1, 24, [])), (4, (2, 0, 0, [165])), (6, (0, 0, 25, []))], [(9, [6, 0], [31]), (9, [2, 0], [32]), (20, [3, 0], [30, 0, 1, 0, 0, -1, 3, 2005000]), (20, [3, 0], [30, 0, -1, 0, 0, 1, 3, 2005000]), (20, [0, 1], [30, 48, 1, 1, 32, -1, 0, 0]), (20, [0], [30, 24, 1, 1, 31]), (100, [4, 2, 1], []), (9, [4, 0], [33]), (7, [1, 3], [2]), (20, [3, 0], [30, 0, 1, 0, 0, -1, 3, 2005000]), (20, [3, 0], [30, 0, -1, 0, 0, 1, 3, 2005000]), (20, [0, 1], [30, 48, 1, 1, 32, -1, 0, 0]), (20, [0], [30, 24, 1, 1, 31])], [(6, (0, 0, 24, []))], [], [], [], [(1, 3, -4294967296, -1), (1, 2, -4294967296, 0), (2, 1, -4294967296, 80)])
theorem oo_Mo_isOuter_3 {kA : Nat → ClassId} : or_ok kA GG o_Mo_isOuter_3 := by
  intro A ta ws vs hD hth hl hk hds hf
  have hl : vs.length = 7 := hl
  have hk : ∀ q ∈ ([(0, (2, 0, 0, [150])), (1, (0, 0, 23, [])), (2, (0, 0, 71, [])), (3, (0, 1, 24, [])), (4, (2, 0, 0, [165])), (6, (0, 0, 25, []))] : List (Nat × tv_T)), tv_ok ta q.2 (n_v vs q.1) := hk
  obtain ⟨t0, hk⟩ := List.forall_mem_cons.mp hk
  have t0 : tv_ok ta (2, 0, 0, [150]) (n_v vs 0) := t0
  have r0 : ta (v_ad (n_v vs 0)) = some 150 := tv_rg t0
  obtain ⟨t1, hk⟩ := List.forall_mem_cons.mp hk
  have t1 : tv_ok ta (0, 0, 23, []) (n_v vs 1) := t1
  have k1 : 0 ≤ v_iv (n_v vs 1) ∧ v_iv (n_v vs 1) ≤ 23 := tv_rng t1
  obtain ⟨t2, hk⟩ := List.forall_mem_cons.mp hk
  have t2 : tv_ok ta (0, 0, 71, []) (n_v vs 2) := t2
  have k2 : 0 ≤ v_iv (n_v vs 2) ∧ v_iv (n_v vs 2) ≤ 71 := tv_rng t2
  obtain ⟨t3, hk⟩ := List.forall_mem_cons.mp hk
  have t3 : tv_ok ta (0, 1, 24, []) (n_v vs 3) := t3
  have k3 : 1 ≤ v_iv (n_v vs 3) ∧ v_iv (n_v vs 3) ≤ 24 := tv_rng t3
  obtain ⟨t4, hk⟩ := List.forall_mem_cons.mp hk
  have t4 : tv_ok ta (2, 0, 0, [165]) (n_v vs 4) := t4
  have r4 : ta (v_ad (n_v vs 4)) = some 165 := tv_rg t4
  obtain ⟨t6, hk⟩ := List.forall_mem_cons.mp hk
  have t6 : tv_ok ta (0, 0, 25, []) (n_v vs 6) := t6
  have k6 : 0 ≤ v_iv (n_v vs 6) ∧ v_iv (n_v vs 6) ≤ 25 := tv_rng t6
  have hds : ∀ q ∈ ([(1, 3, -4294967296, -1), (1, 2, -4294967296, 0), (2, 1, -4294967296, 80)] : List of_T), n_iv vs q.2.1 + q.2.2.1 ≤ n_iv vs q.1 ∧ n_iv vs q.1 ≤ n_iv vs q.2.1 + q.2.2.2 := hds
  obtain ⟨d0, hds⟩ := List.forall_mem_cons.mp hds
  have d0 : v_iv (n_v vs 3) + (-4294967296) ≤ v_iv (n_v vs 1) ∧ v_iv (n_v vs 1) ≤ v_iv (n_v vs 3) + (-1) := d0
  obtain ⟨d1, hds⟩ := List.forall_mem_cons.mp hds
  have d1 : v_iv (n_v vs 2) + (-4294967296) ≤ v_iv (n_v vs 1) ∧ v_iv (n_v vs 1) ≤ v_iv (n_v vs 2) + 0 := d1
  obtain ⟨d2, hds⟩ := List.forall_mem_cons.mp hds
  have d2 : v_iv (n_v vs 1) + (-4294967296) ≤ v_iv (n_v vs 2) ∧ v_iv (n_v vs 2) ≤ v_iv (n_v vs 1) + 80 := d2
  have hf : fc_ok [(9, [6, 0], [31]), (9, [2, 0], [32]), (20, [3, 0], [30, 0, 1, 0, 0, -1, 3, 2005000]), (20, [3, 0], [30, 0, -1, 0, 0, 1, 3, 2005000]), (20, [0, 1], [30, 48, 1, 1, 32, -1, 0, 0]), (20, [0], [30, 24, 1, 1, 31]), (100, [4, 2, 1], []), (9, [4, 0], [33]), (7, [1, 3], [2]), (20, [3, 0], [30, 0, 1, 0, 0, -1, 3, 2005000]), (20, [3, 0], [30, 0, -1, 0, 0, 1, 3, 2005000]), (20, [0, 1], [30, 48, 1, 1, 32, -1, 0, 0]), (20, [0], [30, 24, 1, 1, 31])] ta ws vs := hf
  obtain ⟨f0, hf⟩ := fc_un (by decide) hf
  have f0 : n_v vs 6 = w_fd ws (v_ad (n_v vs 0)) 31 := f0
  obtain ⟨f1, hf⟩ := fc_un (by decide) hf
  have f1 : n_v vs 2 = w_fd ws (v_ad (n_v vs 0)) 32 := f1
  obtain ⟨f2, hf⟩ := fc_un (by decide) hf
  have f2 : 1 * v_iv (n_v vs 3) + ((-1) * w_el ws (w_ar ws (n_v vs 0) 2) (w_fi ws (n_v vs 0) 5 + 0).toNat + 0) ≤ 0 := f2
  obtain ⟨f3, hf⟩ := fc_un (by decide) hf
  have f3 : (-1) * v_iv (n_v vs 3) + (1 * w_el ws (w_ar ws (n_v vs 0) 2) (w_fi ws (n_v vs 0) 5 + 0).toNat + 0) ≤ 0 := f3
  obtain ⟨f4, hf⟩ := fc_un (by decide) hf
  have f4 : 1 * w_fi ws (n_v vs 0) 32 + ((-1) * v_iv (n_v vs 1) + 0) ≤ 48 := f4
  obtain ⟨f5, hf⟩ := fc_un (by decide) hf
  have f5 : 1 * w_fi ws (n_v vs 0) 31 + 0 ≤ 24 := f5
  obtain ⟨ta1, w1, le1, ⟨_, s1⟩, hf⟩ := fc_us (by decide) hf
  have s1 : (∀ b j, w_el ws b j = if b = v_ad (n_v vs 4) ∧ j = (v_iv (n_v vs 2)).toNat then v_iv (n_v vs 1) else w_el w1 b j) ∧ ∀ b k, w_fd ws b k = w_fd w1 b k := s1
  obtain ⟨f7, hf⟩ := fc_un (by decide) hf
  have f7 : n_v vs 4 = w_fd w1 (v_ad (n_v vs 0)) 33 := f7
  obtain ⟨f8, hf⟩ := fc_un (by decide) hf
  have f8 : v_iv (n_v vs 1) < v_iv (n_v vs 3) := f8
  obtain ⟨f9, hf⟩ := fc_un (by decide) hf
  have f9 : 1 * v_iv (n_v vs 3) + ((-1) * w_el w1 (w_ar w1 (n_v vs 0) 2) (w_fi w1 (n_v vs 0) 5 + 0).toNat + 0) ≤ 0 := f9
  obtain ⟨f10, hf⟩ := fc_un (by decide) hf
  have f10 : (-1) * v_iv (n_v vs 3) + (1 * w_el w1 (w_ar w1 (n_v vs 0) 2) (w_fi w1 (n_v vs 0) 5 + 0).toNat + 0) ≤ 0 := f10
  obtain ⟨f11, hf⟩ := fc_un (by decide) hf
  have f11 : 1 * w_fi w1 (n_v vs 0) 32 + ((-1) * v_iv (n_v vs 1) + 0) ≤ 48 := f11
  obtain ⟨f12, hf⟩ := fc_un (by decide) hf
  have f12 : 1 * w_fi w1 (n_v vs 0) 31 + 0 ≤ 24 := f12
  have ar_0_2_1 : w_ar w1 (n_v vs 0) 2 = w_ar ws (n_v vs 0) 2 := by show v_ad (w_fd w1 _ _) = v_ad (w_fd ws _ _); rw [s1.2]
  have cr_0_2 : ta (w_ar ws (n_v vs 0) 2) = some 152 := tv_rg (th_fd hD hth r0 (g := GG_150) rfl (k := 2) (t := (2, 0, 0, [152])) rfl rfl)
  have ar_0_33_1 : w_ar w1 (n_v vs 0) 33 = w_ar ws (n_v vs 0) 33 := by show v_ad (w_fd w1 _ _) = v_ad (w_fd ws _ _); rw [s1.2]
  have cr_0_33 : ta (w_ar ws (n_v vs 0) 33) = some 165 := tv_rg (th_fd hD hth r0 (g := GG_150) rfl (k := 33) (t := (2, 0, 0, [165])) rfl rfl)
  have fi_0_5_1 : w_fi w1 (n_v vs 0) 5 = w_fi ws (n_v vs 0) 5 := by show v_iv (w_fd w1 _ _) = v_iv (w_fd ws _ _); rw [s1.2]
  have ad_4 : v_ad (n_v vs 4) = w_ar ws (n_v vs 0) 33 := (congrArg v_ad f7).trans ar_0_33_1
  have g0 : v_iv (n_v vs 6) = w_fi ws (n_v vs 0) 31 := congrArg v_iv f0
  have g1 : v_iv (n_v vs 2) = w_fi ws (n_v vs 0) 32 := congrArg v_iv f1
  rw [ar_0_2_1] at f9
  rw [fi_0_5_1] at f9
  rw [ar_0_2_1] at f10
  rw [fi_0_5_1] at f10
  have fe_0_5_1 : w_fi ws (n_v vs 0) 5 = w_fi w1 (n_v vs 0) 5 := congrArg v_iv (s1.2 _ _)
  have fe_0_31_1 : w_fi ws (n_v vs 0) 31 = w_fi w1 (n_v vs 0) 31 := congrArg v_iv (s1.2 _ _)
  have fe_0_32_1 : w_fi ws (n_v vs 0) 32 = w_fi w1 (n_v vs 0) 32 := congrArg v_iv (s1.2 _ _)
  have ee_0_2_F5_0_1 : w_el ws (w_ar ws (n_v vs 0) 2) (w_fi ws (n_v vs 0) 5 + 0).toNat = w_el w1 (w_ar ws (n_v vs 0) 2) (w_fi ws (n_v vs 0) 5 + 0).toNat := by rw [s1.1, if_neg (fun e => by have e1 := e.1; rw [← e1] at r4; rw [cr_0_2] at r4; exact absurd (Option.some.inj r4) (by decide))]
  have rf6 : tv_ok ta (0, 0, 24, []) (n_v vs 6) := tv_in t6 (by omega) (by omega)
  refine ⟨List.forall_mem_cons.mpr ⟨rf6, (fun _ h => (by cases h))⟩, [], trivial, ?_, (fun _ h => (by cases h))⟩
  rw [List.append_nil]
  exact (fun _ h => (by cases h))
def o_Mo_isOuter_4 : or_T := (6, 12, [(0, (2, 0, 0, [150])), (1, (0, 0, 23, [])), (2, (0, 0, 71, [])), (3, (0, 1, 24, [])), (4, (2, 0, 0, [165])), (5, (2, 0, 0, [166])), (6, (0, 0, 24, [])), (7, (2, 0, 0, [167])), (9, (0, 1, 1, [])), (10, (0, 1, 72, [])), (11, (0, 1, 24, []))], [(6, [11, 1], [1]), (20, [3, 0], [30, 0, 1, 0, 0, -1, 3, 2005000]), (20, [3, 0], [30, 0, -1, 0, 0, 1, 3, 2005000]), (20, [0], [30, 24, 1, 1, 31]), (101, [0, 10], [32]), (1, [10, 2, 9], []), (9, [2, 0], [32]), (20, [3, 0], [30, 0, 1, 0, 0, -1, 3, 2005000]), (20, [3, 0], [30, 0, -1, 0, 0, 1, 3, 2005000]), (20, [0, 1], [30, 48, 1, 1, 32, -1, 0, 0]), (20, [0], [30, 24, 1, 1, 31]), (100, [7, 2, 8], []), (9, [7, 0], [35]), (20, [3, 0], [30, 0, 1, 0, 0, -1, 3, 2005000]), (20, [3, 0], [30, 0, -1, 0, 0, 1, 3, 2005000]), (20, [0, 1], [30, 48, 1, 1, 32, -1, 0, 0]), (20, [0], [30, 24, 1, 1, 31]), (100, [5, 2, 6], []), (9, [6, 0], [31]), (9, [5, 0], [34]), (20, [3, 0], [30, 0, 1, 0, 0, -1, 3, 2005000]), (20, [3, 0], [30, 0, -1, 0, 0, 1, 3, 2005000]), (20, [0, 1], [30, 48, 1, 1, 32, -1, 0, 0]), (20, [0], [30, 24, 1, 1, 31]), (100, [4, 2, 1], []), (9, [4, 0], [33]), (7, [1, 3], [2]), (20, [3, 0], [30, 0, 1, 0, 0, -1, 3, 2005000]), (20, [3, 0], [30, 0, -1, 0, 0, 1, 3, 2005000]), (20, [0, 1], [30, 48, 1, 1, 32, -1, 0, 0]), (20, [0], [30, 24, 1, 1, 31])], [], [], [(20, [0, 11], [30, 48, 1, 1, 32, -1, 0, 0])], [], [(11, 1, 1, 1), (11, 3, -4294967296, 0), (11, 2, -4294967296, 1), (10, 2, 1, 1), (10, 1, -4294967296, 81), (1, 3, -4294967296, -1), (1, 2, -4294967296, 0), (2, 1, -4294967296, 80)])
theorem oo_Mo_isOuter_4 {kA : Nat → ClassId} : or_ok kA GG o_Mo_isOuter_4 := by
  intro A ta ws vs hD hth hl hk hds hf
  have hl : vs.length = 12 := hl
  have hk : ∀ q ∈ ([(0, (2, 0, 0, [150])), (1, (0, 0, 23, [])), (2, (0, 0, 71, [])), (3, (0, 1, 24, [])), (4, (2, 0, 0, [165])), (5, (2, 0, 0, [166])), (6, (0, 0, 24, [])), (7, (2, 0, 0, [167])), (9, (0, 1, 1, [])), (10, (0, 1, 72, [])), (11, (0, 1, 24, []))] : List (Nat × tv_T)), tv_ok ta q.2 (n_v vs q.1) := hk
  obtain ⟨t0, hk⟩ := List.forall_mem_cons.mp hk
  have t0 : tv_ok ta (2, 0, 0, [150]) (n_v vs 0) := t0
  have r0 : ta (v_ad (n_v vs 0)) = some 150 := tv_rg t0
  obtain ⟨t1, hk⟩ := List.forall_mem_cons.mp hk
  have t1 : tv_ok ta (0, 0, 23, []) (n_v vs 1) := t1
  have k1 : 0 ≤ v_iv (n_v vs 1) ∧ v_iv (n_v vs 1) ≤ 23 := tv_rng t1
  obtain ⟨t2, hk⟩ := List.forall_mem_cons.mp hk
  have t2 : tv_ok ta (0, 0, 71, []) (n_v vs 2) := t2
  have k2 : 0 ≤ v_iv (n_v vs 2) ∧ v_iv (n_v vs 2) ≤ 71 := tv_rng t2
  obtain ⟨t3, hk⟩ := List.forall_mem_cons.mp hk
  have t3 : tv_ok ta (0, 1, 24, []) (n_v vs 3) := t3
  have k3 : 1 ≤ v_iv (n_v vs 3) ∧ v_iv (n_v vs 3) ≤ 24 := tv_rng t3
  obtain ⟨t4, hk⟩ := List.forall_mem_cons.mp hk
  have t4 : tv_ok ta (2, 0, 0, [165]) (n_v vs 4) := t4
  have r4 : ta (v_ad (n_v vs 4)) = some 165 := tv_rg t4
  obtain ⟨t5, hk⟩ := List.forall_mem_cons.mp hk
  have t5 : tv_ok ta (2, 0, 0, [166]) (n_v vs 5) := t5
  have r5 : ta (v_ad (n_v vs 5)) = some 166 := tv_rg t5
  obtain ⟨t6, hk⟩ := List.forall_mem_cons.mp hk
  have t6 : tv_ok ta (0, 0, 24, []) (n_v vs 6) := t6
  have k6 : 0 ≤ v_iv (n_v vs 6) ∧ v_iv (n_v vs 6) ≤ 24 := tv_rng t6
  obtain ⟨t7, hk⟩ := List.forall_mem_cons.mp hk
  have t7 : tv_ok ta (2, 0, 0, [167]) (n_v vs 7) := t7
  have r7 : ta (v_ad (n_v vs 7)) = some 167 := tv_rg t7
  obtain ⟨t9, hk⟩ := List.forall_mem_cons.mp hk
  have t9 : tv_ok ta (0, 1, 1, []) (n_v vs 9) := t9
  have k9 : 1 ≤ v_iv (n_v vs 9) ∧ v_iv (n_v vs 9) ≤ 1 := tv_rng t9
  obtain ⟨t10, hk⟩ := List.forall_mem_cons.mp hk
  have t10 : tv_ok ta (0, 1, 72, []) (n_v vs 10) := t10
  have k10 : 1 ≤ v_iv (n_v vs 10) ∧ v_iv (n_v vs 10) ≤ 72 := tv_rng t10
  obtain ⟨t11, hk⟩ := List.forall_mem_cons.mp hk
  have t11 : tv_ok ta (0, 1, 24, []) (n_v vs 11) := t11
  have k11 : 1 ≤ v_iv (n_v vs 11) ∧ v_iv (n_v vs 11) ≤ 24 := tv_rng t11
  have hds : ∀ q ∈ ([(11, 1, 1, 1), (11, 3, -4294967296, 0), (11, 2, -4294967296, 1), (10, 2, 1, 1), (10, 1, -4294967296, 81), (1, 3, -4294967296, -1), (1, 2, -4294967296, 0), (2, 1, -4294967296, 80)] : List of_T), n_iv vs q.2.1 + q.2.2.1 ≤ n_iv vs q.1 ∧ n_iv vs q.1 ≤ n_iv vs q.2.1 + q.2.2.2 := hds
  obtain ⟨d0, hds⟩ := List.forall_mem_cons.mp hds
  have d0 : v_iv (n_v vs 1) + 1 ≤ v_iv (n_v vs 11) ∧ v_iv (n_v vs 11) ≤ v_iv (n_v vs 1) + 1 := d0
  obtain ⟨d1, hds⟩ := List.forall_mem_cons.mp hds
  have d1 : v_iv (n_v vs 3) + (-4294967296) ≤ v_iv (n_v vs 11) ∧ v_iv (n_v vs 11) ≤ v_iv (n_v vs 3) + 0 := d1
  obtain ⟨d2, hds⟩ := List.forall_mem_cons.mp hds
  have d2 : v_iv (n_v vs 2) + (-4294967296) ≤ v_iv (n_v vs 11) ∧ v_iv (n_v vs 11) ≤ v_iv (n_v vs 2) + 1 := d2
  obtain ⟨d3, hds⟩ := List.forall_mem_cons.mp hds
  have d3 : v_iv (n_v vs 2) + 1 ≤ v_iv (n_v vs 10) ∧ v_iv (n_v vs 10) ≤ v_iv (n_v vs 2) + 1 := d3
  obtain ⟨d4, hds⟩ := List.forall_mem_cons.mp hds
  have d4 : v_iv (n_v vs 1) + (-4294967296) ≤ v_iv (n_v vs 10) ∧ v_iv (n_v vs 10) ≤ v_iv (n_v vs 1) + 81 := d4
  obtain ⟨d5, hds⟩ := List.forall_mem_cons.mp hds
  have d5 : v_iv (n_v vs 3) + (-4294967296) ≤ v_iv (n_v vs 1) ∧ v_iv (n_v vs 1) ≤ v_iv (n_v vs 3) + (-1) := d5
  obtain ⟨d6, hds⟩ := List.forall_mem_cons.mp hds
  have d6 : v_iv (n_v vs 2) + (-4294967296) ≤ v_iv (n_v vs 1) ∧ v_iv (n_v vs 1) ≤ v_iv (n_v vs 2) + 0 := d6
  obtain ⟨d7, hds⟩ := List.forall_mem_cons.mp hds
  have d7 : v_iv (n_v vs 1) + (-4294967296) ≤ v_iv (n_v vs 2) ∧ v_iv (n_v vs 2) ≤ v_iv (n_v vs 1) + 80 := d7
  have hf : fc_ok [(6, [11, 1], [1]), (20, [3, 0], [30, 0, 1, 0, 0, -1, 3, 2005000]), (20, [3, 0], [30, 0, -1, 0, 0, 1, 3, 2005000]), (20, [0], [30, 24, 1, 1, 31]), (101, [0, 10], [32]), (1, [10, 2, 9], []), (9, [2, 0], [32]), (20, [3, 0], [30, 0, 1, 0, 0, -1, 3, 2005000]), (20, [3, 0], [30, 0, -1, 0, 0, 1, 3, 2005000]), (20, [0, 1], [30, 48, 1, 1, 32, -1, 0, 0]), (20, [0], [30, 24, 1, 1, 31]), (100, [7, 2, 8], []), (9, [7, 0], [35]), (20, [3, 0], [30, 0, 1, 0, 0, -1, 3, 2005000]), (20, [3, 0], [30, 0, -1, 0, 0, 1, 3, 2005000]), (20, [0, 1], [30, 48, 1, 1, 32, -1, 0, 0]), (20, [0], [30, 24, 1, 1, 31]), (100, [5, 2, 6], []), (9, [6, 0], [31]), (9, [5, 0], [34]), (20, [3, 0], [30, 0, 1, 0, 0, -1, 3, 2005000]), (20, [3, 0], [30, 0, -1, 0, 0, 1, 3, 2005000]), (20, [0, 1], [30, 48, 1, 1, 32, -1, 0, 0]), (20, [0], [30, 24, 1, 1, 31]), (100, [4, 2, 1], []), (9, [4, 0], [33]), (7, [1, 3], [2]), (20, [3, 0], [30, 0, 1, 0, 0, -1, 3, 2005000]), (20, [3, 0], [30, 0, -1, 0, 0, 1, 3, 2005000]), (20, [0, 1], [30, 48, 1, 1, 32, -1, 0, 0]), (20, [0], [30, 24, 1, 1, 31])] ta ws vs := hf
  obtain ⟨f0, hf⟩ := fc_un (by decide) hf
  have f0 : v_iv (n_v vs 11) = v_iv (n_v vs 1) + 1 := f0
  obtain ⟨f1, hf⟩ := fc_un (by decide) hf
  have f1 : 1 * v_iv (n_v vs 3) + ((-1) * w_el ws (w_ar ws (n_v vs 0) 2) (w_fi ws (n_v vs 0) 5 + 0).toNat + 0) ≤ 0 := f1
  obtain ⟨f2, hf⟩ := fc_un (by decide) hf
  have f2 : (-1) * v_iv (n_v vs 3) + (1 * w_el ws (w_ar ws (n_v vs 0) 2) (w_fi ws (n_v vs 0) 5 + 0).toNat + 0) ≤ 0 := f2
  obtain ⟨f3, hf⟩ := fc_un (by decide) hf
  have f3 : 1 * w_fi ws (n_v vs 0) 31 + 0 ≤ 24 := f3
  obtain ⟨ta1, w1, le1, ⟨_, s1⟩, hf⟩ := fc_us (by decide) hf
  have s1 : (∀ b j, w_el ws b j = w_el w1 b j) ∧ ∀ b j, w_fd ws b j = if b = v_ad (n_v vs 0) ∧ j = 32 then n_v vs 10 else w_fd w1 b j := s1
  obtain ⟨f5, hf⟩ := fc_un (by decide) hf
  have f5 : v_iv (n_v vs 10) = v_iv (n_v vs 2) + v_iv (n_v vs 9) := f5
  obtain ⟨f6, hf⟩ := fc_un (by decide) hf
  have f6 : n_v vs 2 = w_fd w1 (v_ad (n_v vs 0)) 32 := f6
  obtain ⟨f7, hf⟩ := fc_un (by decide) hf
  have f7 : 1 * v_iv (n_v vs 3) + ((-1) * w_el w1 (w_ar w1 (n_v vs 0) 2) (w_fi w1 (n_v vs 0) 5 + 0).toNat + 0) ≤ 0 := f7
  obtain ⟨f8, hf⟩ := fc_un (by decide) hf
  have f8 : (-1) * v_iv (n_v vs 3) + (1 * w_el w1 (w_ar w1 (n_v vs 0) 2) (w_fi w1 (n_v vs 0) 5 + 0).toNat + 0) ≤ 0 := f8
  obtain ⟨f9, hf⟩ := fc_un (by decide) hf
  have f9 : 1 * w_fi w1 (n_v vs 0) 32 + ((-1) * v_iv (n_v vs 1) + 0) ≤ 48 := f9
  obtain ⟨f10, hf⟩ := fc_un (by decide) hf
  have f10 : 1 * w_fi w1 (n_v vs 0) 31 + 0 ≤ 24 := f10
  obtain ⟨ta2, w2, le2, ⟨_, s2⟩, hf⟩ := fc_us (by decide) hf
  have s2 : (∀ b j, w_el w1 b j = if b = v_ad (n_v vs 7) ∧ j = (v_iv (n_v vs 2)).toNat then v_iv (n_v vs 8) else w_el w2 b j) ∧ ∀ b k, w_fd w1 b k = w_fd w2 b k := s2
  obtain ⟨f12, hf⟩ := fc_un (by decide) hf
  have f12 : n_v vs 7 = w_fd w2 (v_ad (n_v vs 0)) 35 := f12
  obtain ⟨f13, hf⟩ := fc_un (by decide) hf
  have f13 : 1 * v_iv (n_v vs 3) + ((-1) * w_el w2 (w_ar w2 (n_v vs 0) 2) (w_fi w2 (n_v vs 0) 5 + 0).toNat + 0) ≤ 0 := f13
  obtain ⟨f14, hf⟩ := fc_un (by decide) hf
  have f14 : (-1) * v_iv (n_v vs 3) + (1 * w_el w2 (w_ar w2 (n_v vs 0) 2) (w_fi w2 (n_v vs 0) 5 + 0).toNat + 0) ≤ 0 := f14
  obtain ⟨f15, hf⟩ := fc_un (by decide) hf
  have f15 : 1 * w_fi w2 (n_v vs 0) 32 + ((-1) * v_iv (n_v vs 1) + 0) ≤ 48 := f15
  obtain ⟨f16, hf⟩ := fc_un (by decide) hf
  have f16 : 1 * w_fi w2 (n_v vs 0) 31 + 0 ≤ 24 := f16
  obtain ⟨ta3, w3, le3, ⟨_, s3⟩, hf⟩ := fc_us (by decide) hf
  have s3 : (∀ b j, w_el w2 b j = if b = v_ad (n_v vs 5) ∧ j = (v_iv (n_v vs 2)).toNat then v_iv (n_v vs 6) else w_el w3 b j) ∧ ∀ b k, w_fd w2 b k = w_fd w3 b k := s3
  obtain ⟨f18, hf⟩ := fc_un (by decide) hf
  have f18 : n_v vs 6 = w_fd w3 (v_ad (n_v vs 0)) 31 := f18
  obtain ⟨f19, hf⟩ := fc_un (by decide) hf
  have f19 : n_v vs 5 = w_fd w3 (v_ad (n_v vs 0)) 34 := f19
  obtain ⟨f20, hf⟩ := fc_un (by decide) hf
  have f20 : 1 * v_iv (n_v vs 3) + ((-1) * w_el w3 (w_ar w3 (n_v vs 0) 2) (w_fi w3 (n_v vs 0) 5 + 0).toNat + 0) ≤ 0 := f20
  obtain ⟨f21, hf⟩ := fc_un (by decide) hf
  have f21 : (-1) * v_iv (n_v vs 3) + (1 * w_el w3 (w_ar w3 (n_v vs 0) 2) (w_fi w3 (n_v vs 0) 5 + 0).toNat + 0) ≤ 0 := f21
  obtain ⟨f22, hf⟩ := fc_un (by decide) hf
  have f22 : 1 * w_fi w3 (n_v vs 0) 32 + ((-1) * v_iv (n_v vs 1) + 0) ≤ 48 := f22
  obtain ⟨f23, hf⟩ := fc_un (by decide) hf
  have f23 : 1 * w_fi w3 (n_v vs 0) 31 + 0 ≤ 24 := f23
  obtain ⟨ta4, w4, le4, ⟨_, s4⟩, hf⟩ := fc_us (by decide) hf
  have s4 : (∀ b j, w_el w3 b j = if b = v_ad (n_v vs 4) ∧ j = (v_iv (n_v vs 2)).toNat then v_iv (n_v vs 1) else w_el w4 b j) ∧ ∀ b k, w_fd w3 b k = w_fd w4 b k := s4
  obtain ⟨f25, hf⟩ := fc_un (by decide) hf
  have f25 : n_v vs 4 = w_fd w4 (v_ad (n_v vs 0)) 33 := f25
  obtain ⟨f26, hf⟩ := fc_un (by decide) hf
  have f26 : v_iv (n_v vs 1) < v_iv (n_v vs 3) := f26
  obtain ⟨f27, hf⟩ := fc_un (by decide) hf
  have f27 : 1 * v_iv (n_v vs 3) + ((-1) * w_el w4 (w_ar w4 (n_v vs 0) 2) (w_fi w4 (n_v vs 0) 5 + 0).toNat + 0) ≤ 0 := f27
  obtain ⟨f28, hf⟩ := fc_un (by decide) hf
  have f28 : (-1) * v_iv (n_v vs 3) + (1 * w_el w4 (w_ar w4 (n_v vs 0) 2) (w_fi w4 (n_v vs 0) 5 + 0).toNat + 0) ≤ 0 := f28
  obtain ⟨f29, hf⟩ := fc_un (by decide) hf
  have f29 : 1 * w_fi w4 (n_v vs 0) 32 + ((-1) * v_iv (n_v vs 1) + 0) ≤ 48 := f29
  obtain ⟨f30, hf⟩ := fc_un (by decide) hf
  have f30 : 1 * w_fi w4 (n_v vs 0) 31 + 0 ≤ 24 := f30
  have ar_0_2_1 : w_ar w1 (n_v vs 0) 2 = w_ar ws (n_v vs 0) 2 := by show v_ad (w_fd w1 _ _) = v_ad (w_fd ws _ _); rw [s1.2, if_neg (fun e => absurd e.2 (by decide))]
  have ar_0_2_2 : w_ar w2 (n_v vs 0) 2 = w_ar ws (n_v vs 0) 2 := by rw [← ar_0_2_1]; show v_ad (w_fd w2 _ _) = v_ad (w_fd w1 _ _); rw [s2.2]
  have ar_0_2_3 : w_ar w3 (n_v vs 0) 2 = w_ar ws (n_v vs 0) 2 := by rw [← ar_0_2_2]; show v_ad (w_fd w3 _ _) = v_ad (w_fd w2 _ _); rw [s3.2]
  have ar_0_2_4 : w_ar w4 (n_v vs 0) 2 = w_ar ws (n_v vs 0) 2 := by rw [← ar_0_2_3]; show v_ad (w_fd w4 _ _) = v_ad (w_fd w3 _ _); rw [s4.2]
  have cr_0_2 : ta (w_ar ws (n_v vs 0) 2) = some 152 := tv_rg (th_fd hD hth r0 (g := GG_150) rfl (k := 2) (t := (2, 0, 0, [152])) rfl rfl)
  have ar_0_33_1 : w_ar w1 (n_v vs 0) 33 = w_ar ws (n_v vs 0) 33 := by show v_ad (w_fd w1 _ _) = v_ad (w_fd ws _ _); rw [s1.2, if_neg (fun e => absurd e.2 (by decide))]
  have ar_0_33_2 : w_ar w2 (n_v vs 0) 33 = w_ar ws (n_v vs 0) 33 := by rw [← ar_0_33_1]; show v_ad (w_fd w2 _ _) = v_ad (w_fd w1 _ _); rw [s2.2]
  have ar_0_33_3 : w_ar w3 (n_v vs 0) 33 = w_ar ws (n_v vs 0) 33 := by rw [← ar_0_33_2]; show v_ad (w_fd w3 _ _) = v_ad (w_fd w2 _ _); rw [s3.2]
  have ar_0_33_4 : w_ar w4 (n_v vs 0) 33 = w_ar ws (n_v vs 0) 33 := by rw [← ar_0_33_3]; show v_ad (w_fd w4 _ _) = v_ad (w_fd w3 _ _); rw [s4.2]
  have cr_0_33 : ta (w_ar ws (n_v vs 0) 33) = some 165 := tv_rg (th_fd hD hth r0 (g := GG_150) rfl (k := 33) (t := (2, 0, 0, [165])) rfl rfl)
  have ar_0_34_1 : w_ar w1 (n_v vs 0) 34 = w_ar ws (n_v vs 0) 34 := by show v_ad (w_fd w1 _ _) = v_ad (w_fd ws _ _); rw [s1.2, if_neg (fun e => absurd e.2 (by decide))]
  have ar_0_34_2 : w_ar w2 (n_v vs 0) 34 = w_ar ws (n_v vs 0) 34 := by rw [← ar_0_34_1]; show v_ad (w_fd w2 _ _) = v_ad (w_fd w1 _ _); rw [s2.2]
  have ar_0_34_3 : w_ar w3 (n_v vs 0) 34 = w_ar ws (n_v vs 0) 34 := by rw [← ar_0_34_2]; show v_ad (w_fd w3 _ _) = v_ad (w_fd w2 _ _); rw [s3.2]
  have ar_0_34_4 : w_ar w4 (n_v vs 0) 34 = w_ar ws (n_v vs 0) 34 := by rw [← ar_0_34_3]; show v_ad (w_fd w4 _ _) = v_ad (w_fd w3 _ _); rw [s4.2]
  have cr_0_34 : ta (w_ar ws (n_v vs 0) 34) = some 166 := tv_rg (th_fd hD hth r0 (g := GG_150) rfl (k := 34) (t := (2, 0, 0, [166])) rfl rfl)
  have ar_0_35_1 : w_ar w1 (n_v vs 0) 35 = w_ar ws (n_v vs 0) 35 := by show v_ad (w_fd w1 _ _) = v_ad (w_fd ws _ _); rw [s1.2, if_neg (fun e => absurd e.2 (by decide))]
  have ar_0_35_2 : w_ar w2 (n_v vs 0) 35 = w_ar ws (n_v vs 0) 35 := by rw [← ar_0_35_1]; show v_ad (w_fd w2 _ _) = v_ad (w_fd w1 _ _); rw [s2.2]
  have ar_0_35_3 : w_ar w3 (n_v vs 0) 35 = w_ar ws (n_v vs 0) 35 := by rw [← ar_0_35_2]; show v_ad (w_fd w3 _ _) = v_ad (w_fd w2 _ _); rw [s3.2]
  have ar_0_35_4 : w_ar w4 (n_v vs 0) 35 = w_ar ws (n_v vs 0) 35 := by rw [← ar_0_35_3]; show v_ad (w_fd w4 _ _) = v_ad (w_fd w3 _ _); rw [s4.2]
  have cr_0_35 : ta (w_ar ws (n_v vs 0) 35) = some 167 := tv_rg (th_fd hD hth r0 (g := GG_150) rfl (k := 35) (t := (2, 0, 0, [167])) rfl rfl)
  have fi_0_5_1 : w_fi w1 (n_v vs 0) 5 = w_fi ws (n_v vs 0) 5 := by show v_iv (w_fd w1 _ _) = v_iv (w_fd ws _ _); rw [s1.2, if_neg (fun e => absurd e.2 (by decide))]
  have fi_0_5_2 : w_fi w2 (n_v vs 0) 5 = w_fi ws (n_v vs 0) 5 := by rw [← fi_0_5_1]; show v_iv (w_fd w2 _ _) = v_iv (w_fd w1 _ _); rw [s2.2]
  have fi_0_5_3 : w_fi w3 (n_v vs 0) 5 = w_fi ws (n_v vs 0) 5 := by rw [← fi_0_5_2]; show v_iv (w_fd w3 _ _) = v_iv (w_fd w2 _ _); rw [s3.2]
  have fi_0_5_4 : w_fi w4 (n_v vs 0) 5 = w_fi ws (n_v vs 0) 5 := by rw [← fi_0_5_3]; show v_iv (w_fd w4 _ _) = v_iv (w_fd w3 _ _); rw [s4.2]
  have ad_7 : v_ad (n_v vs 7) = w_ar ws (n_v vs 0) 35 := (congrArg v_ad f12).trans ar_0_35_2
  have ad_5 : v_ad (n_v vs 5) = w_ar ws (n_v vs 0) 34 := (congrArg v_ad f19).trans ar_0_34_3
  have ad_4 : v_ad (n_v vs 4) = w_ar ws (n_v vs 0) 33 := (congrArg v_ad f25).trans ar_0_33_4
  have g6 : v_iv (n_v vs 2) = w_fi w1 (n_v vs 0) 32 := congrArg v_iv f6
  rw [ar_0_2_1] at f7
  rw [fi_0_5_1] at f7
  rw [ar_0_2_1] at f8
  rw [fi_0_5_1] at f8
  rw [ar_0_2_2] at f13
  rw [fi_0_5_2] at f13
  rw [ar_0_2_2] at f14
  rw [fi_0_5_2] at f14
  have g18 : v_iv (n_v vs 6) = w_fi w3 (n_v vs 0) 31 := congrArg v_iv f18
  rw [ar_0_2_3] at f20
  rw [fi_0_5_3] at f20
  rw [ar_0_2_3] at f21
  rw [fi_0_5_3] at f21
  rw [ar_0_2_4] at f27
  rw [fi_0_5_4] at f27
  rw [ar_0_2_4] at f28
  rw [fi_0_5_4] at f28
  have fe_0_5_1 : w_fi ws (n_v vs 0) 5 = w_fi w1 (n_v vs 0) 5 := by show v_iv (w_fd _ _ _) = v_iv (w_fd _ _ _); rw [s1.2, if_neg (fun e => absurd e.2 (by decide))]
  have fe_0_31_1 : w_fi ws (n_v vs 0) 31 = w_fi w1 (n_v vs 0) 31 := by show v_iv (w_fd _ _ _) = v_iv (w_fd _ _ _); rw [s1.2, if_neg (fun e => absurd e.2 (by decide))]
  have fe_0_32_1 : w_fi ws (n_v vs 0) 32 = v_iv (n_v vs 10) := by show v_iv (w_fd _ _ _) = _; rw [s1.2, if_pos ⟨rfl, rfl⟩]
  have ee_0_2_F5_0_1 : w_el ws (w_ar ws (n_v vs 0) 2) (w_fi ws (n_v vs 0) 5 + 0).toNat = w_el w1 (w_ar ws (n_v vs 0) 2) (w_fi ws (n_v vs 0) 5 + 0).toNat := s1.1 _ _
  have fe_0_5_2 : w_fi w1 (n_v vs 0) 5 = w_fi w2 (n_v vs 0) 5 := congrArg v_iv (s2.2 _ _)
  have fe_0_31_2 : w_fi w1 (n_v vs 0) 31 = w_fi w2 (n_v vs 0) 31 := congrArg v_iv (s2.2 _ _)
  have fe_0_32_2 : w_fi w1 (n_v vs 0) 32 = w_fi w2 (n_v vs 0) 32 := congrArg v_iv (s2.2 _ _)
  have ee_0_2_F5_0_2 : w_el w1 (w_ar ws (n_v vs 0) 2) (w_fi ws (n_v vs 0) 5 + 0).toNat = w_el w2 (w_ar ws (n_v vs 0) 2) (w_fi ws (n_v vs 0) 5 + 0).toNat := by rw [s2.1, if_neg (fun e => by have e1 := e.1; rw [← e1] at r7; rw [cr_0_2] at r7; exact absurd (Option.some.inj r7) (by decide))]
  have fe_0_5_3 : w_fi w2 (n_v vs 0) 5 = w_fi w3 (n_v vs 0) 5 := congrArg v_iv (s3.2 _ _)
  have fe_0_31_3 : w_fi w2 (n_v vs 0) 31 = w_fi w3 (n_v vs 0) 31 := congrArg v_iv (s3.2 _ _)
  have fe_0_32_3 : w_fi w2 (n_v vs 0) 32 = w_fi w3 (n_v vs 0) 32 := congrArg v_iv (s3.2 _ _)
  have ee_0_2_F5_0_3 : w_el w2 (w_ar ws (n_v vs 0) 2) (w_fi ws (n_v vs 0) 5 + 0).toNat = w_el w3 (w_ar ws (n_v vs 0) 2) (w_fi ws (n_v vs 0) 5 + 0).toNat := by rw [s3.1, if_neg (fun e => by have e1 := e.1; rw [← e1] at r5; rw [cr_0_2] at r5; exact absurd (Option.some.inj r5) (by decide))]
  have fe_0_5_4 : w_fi w3 (n_v vs 0) 5 = w_fi w4 (n_v vs 0) 5 := congrArg v_iv (s4.2 _ _)
  have fe_0_31_4 : w_fi w3 (n_v vs 0) 31 = w_fi w4 (n_v vs 0) 31 := congrArg v_iv (s4.2 _ _)
  have fe_0_32_4 : w_fi w3 (n_v vs 0) 32 = w_fi w4 (n_v vs 0) 32 := congrArg v_iv (s4.2 _ _)
  have ee_0_2_F5_0_4 : w_el w3 (w_ar ws (n_v vs 0) 2) (w_fi ws (n_v vs 0) 5 + 0).toNat = w_el w4 (w_ar ws (n_v vs 0) 2) (w_fi ws (n_v vs 0) 5 + 0).toNat := by rw [s4.1, if_neg (fun e => by have e1 := e.1; rw [← e1] at r4; rw [cr_0_2] at r4; exact absurd (Option.some.inj r4) (by decide))]
  have nf0 : fc_1 (20, [0, 11], [30, 48, 1, 1, 32, -1, 0, 0]) ws (vs) := by
    refine ⟨fun n hn => ?_, ?_⟩
    · have hn : n ∈ [0, 11] := hn
      rw [hl]
      simp only [List.mem_cons, List.not_mem_nil, or_false] at hn
      show n < 12; omega
    · show 1 * w_fi ws (n_v vs 0) 32 + ((-1) * v_iv (n_v vs 11) + 0) ≤ 48
      omega
  refine ⟨(fun _ h => (by cases h)), [], trivial, ?_, (fun _ h => (by cases h))⟩
  rw [List.append_nil]
  exact List.forall_mem_cons.mpr ⟨⟨by decide, nf0⟩, (fun _ h => (by cases h))⟩
def n_Mo_isOuter_an : List an_T := [(6, [(0, (2, 0, 0, [150])), (1, (0, 0, 24, []))], [], (0, 0), [(0, 0, 99994), (1, 1, 24), (0, 0, 100000)], [(1, 2, -1000000000000, 0), (2, 1, -1000000000000, 80)], [((0, 32), (0, 0, 80, []))], [], 0, [], [(20, [0, 1], [30, 48, 1, 1, 32, -1, 0, 0]), (20, [0], [30, 24, 1, 1, 31])])]
def t_Mo_isOuter_ct : ct_L := [(1, 475, e_Mo_nodes), (1, 689, e_Mo_plane), (1, 692, e_Mo_embed)]
set_option maxRecDepth 100000 in
theorem c_Mo_isOuter {l : Launch} {D : va_G} {kA : Nat → ClassId} (h_Mo_embed : ct_ok l D kA GG y_Mo_embed z_Mo_embed e_Mo_embed) (h_Mo_nodes : ct_ok l D kA GG y_Mo_nodes z_Mo_nodes e_Mo_nodes) (h_Mo_plane : ct_ok l D kA GG y_Mo_plane z_Mo_plane e_Mo_plane) : ct_ok l D kA GG y_Mo_isOuter z_Mo_isOuter e_Mo_isOuter := chk_all_ok (FT := [(57, 13, 33), (60, 13, 34), (63, 13, 35), (594, 13, 31), (597, 13, 32)]) (PT := [(594, 13, 31, .int), (597, 13, 32, .int)]) (CT := t_Mo_isOuter_ct) (KT := []) (NT := []) (AN := n_Mo_isOuter_an) (OT := [o_Mo_isOuter_0, o_Mo_isOuter_1, o_Mo_isOuter_2, o_Mo_isOuter_3, o_Mo_isOuter_4]) 3 200 (List.forall_mem_cons.mpr ⟨oo_Mo_isOuter_0, List.forall_mem_cons.mpr ⟨oo_Mo_isOuter_1, List.forall_mem_cons.mpr ⟨oo_Mo_isOuter_2, List.forall_mem_cons.mpr ⟨oo_Mo_isOuter_3, List.forall_mem_cons.mpr ⟨oo_Mo_isOuter_4, List.forall_mem_nil _⟩⟩⟩⟩⟩) (by decide +kernel) ⟨List.forall_mem_cons.mpr ⟨gf_Mo_57, List.forall_mem_cons.mpr ⟨gf_Mo_60, List.forall_mem_cons.mpr ⟨gf_Mo_63, List.forall_mem_cons.mpr ⟨gf_Mo_594, List.forall_mem_cons.mpr ⟨gf_Mo_597, List.forall_mem_nil _⟩⟩⟩⟩⟩, List.forall_mem_cons.mpr ⟨pf_Mo_594, List.forall_mem_cons.mpr ⟨pf_Mo_597, List.forall_mem_nil _⟩⟩, List.forall_mem_cons.mpr ⟨cl_virtual (y := y_Mo_nodes) (ci := 13) rfl rfl ⟨_, _, rfl⟩ (by decide +kernel) h_Mo_nodes wm_3025 wm_9 wm_3022 wm_3024 wv_13_3 ⟨by decide, by decide, by decide +kernel⟩ (by decide), List.forall_mem_cons.mpr ⟨cl_virtual (y := y_Mo_plane) (ci := 13) rfl rfl ⟨_, _, rfl⟩ (by decide +kernel) h_Mo_plane wm_3147 wm_9 wm_3144 wm_3146 wv_14_12 ⟨by decide, by decide, by decide +kernel⟩ (by decide), List.forall_mem_cons.mpr ⟨cl_virtual (y := y_Mo_embed) (ci := 13) rfl rfl ⟨_, _, rfl⟩ (by decide +kernel) h_Mo_embed wm_3151 wm_9 wm_3148 wm_3150 wv_14_13 ⟨by decide, by decide, by decide +kernel⟩ (by decide), List.forall_mem_nil _⟩⟩⟩, List.forall_mem_nil _, List.forall_mem_nil _⟩ (by decide +kernel)
def n_Mo_isPlanar_an : List an_T := []
def t_Mo_isPlanar_ct : ct_L := [(1, 689, e_Mo_plane), (1, 692, e_Mo_embed)]
set_option maxRecDepth 100000 in
theorem c_Mo_isPlanar {l : Launch} {D : va_G} {kA : Nat → ClassId} (h_Mo_embed : ct_ok l D kA GG y_Mo_embed z_Mo_embed e_Mo_embed) (h_Mo_plane : ct_ok l D kA GG y_Mo_plane z_Mo_plane e_Mo_plane) : ct_ok l D kA GG y_Mo_isPlanar z_Mo_isPlanar e_Mo_isPlanar := chk_all_ok (FT := []) (PT := []) (CT := t_Mo_isPlanar_ct) (KT := []) (NT := []) (AN := n_Mo_isPlanar_an) (OT := []) 0 200 (List.forall_mem_nil _) (by decide +kernel) ⟨List.forall_mem_nil _, List.forall_mem_nil _, List.forall_mem_cons.mpr ⟨cl_virtual (y := y_Mo_plane) (ci := 13) rfl rfl ⟨_, _, rfl⟩ (by decide +kernel) h_Mo_plane wm_3147 wm_9 wm_3144 wm_3146 wv_14_12 ⟨by decide, by decide, by decide +kernel⟩ (by decide), List.forall_mem_cons.mpr ⟨cl_virtual (y := y_Mo_embed) (ci := 13) rfl rfl ⟨_, _, rfl⟩ (by decide +kernel) h_Mo_embed wm_3151 wm_9 wm_3148 wm_3150 wv_14_13 ⟨by decide, by decide, by decide +kernel⟩ (by decide), List.forall_mem_nil _⟩⟩, List.forall_mem_nil _, List.forall_mem_nil _⟩ (by decide +kernel)
