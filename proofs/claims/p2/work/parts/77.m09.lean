def n_Pn_orderFromTo_an : List an_T := [(59, [(0, (2, 0, 0, [7])), (1, (2, 0, 0, [3])), (2, (0, 0, 16777215, [])), (3, (0, 0, 16777215, [])), (4, (0, 0, 24, []))], [], (0, 0), [(0, 0, 99941), (1, 4, 24), (0, 0, 100000), (0, 0, 0), (0, 0, 0)], [], [], [], 0, [], []), (77, [(0, (2, 0, 0, [7])), (1, (2, 0, 0, [3])), (2, (0, 0, 16777215, [])), (3, (0, 0, 16777215, [])), (4, (0, 0, 23, [])), (5, (0, 0, 25, [])), (6, (0, 0, 24, []))], [], (0, 0), [(0, 0, 99941), (1, 4, 24), (0, 0, 99923), (1, 6, 24), (0, 0, 100000)], [], [], [], 0, [], []), (155, [(0, (2, 0, 0, [7])), (1, (2, 0, 0, [3])), (2, (0, 0, 16777215, [])), (3, (0, 0, 16777215, [])), (4, (0, 0, 23, [])), (5, (0, 0, 25, [])), (6, (0, 0, 24, []))], [], (0, 0), [(0, 0, 99941), (1, 4, 24), (0, 0, 99845), (1, 6, 24), (0, 0, 100000)], [], [], [], 0, [], [])]
def t_Pn_orderFromTo_ct : ct_L := [(1, 224, e_Pn_insertWay), (408, 220, e_Fa_shortestWay_at_Grnear_Pnlevel_Pnway)]
set_option maxRecDepth 100000 in
theorem c_Pn_orderFromTo {l : Launch} {D : va_G} {kA : Nat → ClassId} (h_Fa_shortestWay_at_Grnear_Pnlevel_Pnway : ct_ok l D kA GG y_Fa_shortestWay_at_Grnear_Pnlevel_Pnway z_Fa_shortestWay_at_Grnear_Pnlevel_Pnway e_Fa_shortestWay_at_Grnear_Pnlevel_Pnway) (h_Pn_insertWay : ct_ok l D kA GG y_Pn_insertWay z_Pn_insertWay e_Pn_insertWay) : ct_ok l D kA GG y_Pn_orderFromTo z_Pn_orderFromTo e_Pn_orderFromTo := chk_all_ok (FT := [(22, 7, 2), (25, 7, 3), (32, 7, 5), (35, 7, 6), (47, 3, 0), (214, 3, 7), (218, 3, 8), (219, 3, 14)]) (PT := [(25, 7, 3, .int)]) (CT := t_Pn_orderFromTo_ct) (KT := []) (NT := []) (AN := n_Pn_orderFromTo_an) (OT := []) 5 488 (List.forall_mem_nil _) (by decide +kernel) ⟨List.forall_mem_cons.mpr ⟨gf_Pn_22, List.forall_mem_cons.mpr ⟨gf_Pn_25, List.forall_mem_cons.mpr ⟨gf_Pn_32, List.forall_mem_cons.mpr ⟨gf_Pn_35, List.forall_mem_cons.mpr ⟨gf_Pn_47, List.forall_mem_cons.mpr ⟨gf_Pn_214, List.forall_mem_cons.mpr ⟨gf_Pn_218, List.forall_mem_cons.mpr ⟨gf_Pn_219, List.forall_mem_nil _⟩⟩⟩⟩⟩⟩⟩⟩, List.forall_mem_cons.mpr ⟨pf_Pn_25, List.forall_mem_nil _⟩, List.forall_mem_cons.mpr ⟨cl_virtual (y := y_Pn_insertWay) (ci := 7) rfl rfl ⟨_, _, rfl⟩ (by decide +kernel) h_Pn_insertWay wm_1592 wm_20 wm_1589 wm_1591 wv_7_2 ⟨by decide, by decide, by decide +kernel⟩ (by decide), List.forall_mem_cons.mpr ⟨cl_static (y := y_Fa_shortestWay_at_Grnear_Pnlevel_Pnway) h_Fa_shortestWay_at_Grnear_Pnlevel_Pnway wm_1077 wm_7 wm_1588 wm_1076 ⟨by decide, by decide, by decide +kernel⟩ (by decide), List.forall_mem_nil _⟩⟩, List.forall_mem_nil _, List.forall_mem_nil _⟩ (by decide +kernel)
def o_Mo_ofEdgeWord_0 : or_T := (4, 3, [(0, (2, 0, 0, [150])), (2, (0, -1, 47, []))], [(9, [2, 0], [165]), (20, [0], [30, 0, -1, 1, 165])], [(2, (0, 0, 47, []))], [], [], [], [])
theorem oo_Mo_ofEdgeWord_0 {kA : Nat → ClassId} : or_ok kA GG o_Mo_ofEdgeWord_0 := by
  intro A ta ws vs hD hth hl hk hds hf
  have hl : vs.length = 3 := hl
  have hk : ∀ q ∈ ([(0, (2, 0, 0, [150])), (2, (0, -1, 47, []))] : List (Nat × tv_T)), tv_ok ta q.2 (n_v vs q.1) := hk
  obtain ⟨t0, hk⟩ := List.forall_mem_cons.mp hk
  have t0 : tv_ok ta (2, 0, 0, [150]) (n_v vs 0) := t0
  have r0 : ta (v_ad (n_v vs 0)) = some 150 := tv_rg t0
  obtain ⟨t2, hk⟩ := List.forall_mem_cons.mp hk
  have t2 : tv_ok ta (0, -1, 47, []) (n_v vs 2) := t2
  have k2 : (-1) ≤ v_iv (n_v vs 2) ∧ v_iv (n_v vs 2) ≤ 47 := tv_rng t2
  have hf : fc_ok [(9, [2, 0], [165]), (20, [0], [30, 0, -1, 1, 165])] ta ws vs := hf
  obtain ⟨f0, hf⟩ := fc_un (by decide) hf
  have f0 : n_v vs 2 = w_fd ws (v_ad (n_v vs 0)) 165 := f0
  obtain ⟨f1, hf⟩ := fc_un (by decide) hf
  have f1 : (-1) * w_fi ws (n_v vs 0) 165 + 0 ≤ 0 := f1
  have g0 : v_iv (n_v vs 2) = w_fi ws (n_v vs 0) 165 := congrArg v_iv f0
  have rf2 : tv_ok ta (0, 0, 47, []) (n_v vs 2) := tv_in t2 (by omega) (by omega)
  refine ⟨List.forall_mem_cons.mpr ⟨rf2, (fun _ h => (by cases h))⟩, [], trivial, ?_, (fun _ h => (by cases h))⟩
  rw [List.append_nil]
  exact (fun _ h => (by cases h))
def n_Mo_ofEdgeWord_an : List an_T := []
def t_Mo_ofEdgeWord_ct : ct_L := [(1, 394, e_Mo_tail), (1, 398, e_Mo_head), (1, 553, e_Mo_one), (1, 737, e_Mo_weight), (1, 739, e_Mo_isBridge), (1, 1023, e_Mo_px), (1, 1029, e_Mo_py), (432, 1137, e_jMath_abs2_v55), (504, 1137, e_jMath_abs2_v55)]
set_option maxRecDepth 100000 in
theorem c_Mo_ofEdgeWord {l : Launch} {D : va_G} {kA : Nat → ClassId} (h_Mo_head : ct_ok l D kA GG y_Mo_head z_Mo_head e_Mo_head) (h_Mo_isBridge : ct_ok l D kA GG y_Mo_isBridge z_Mo_isBridge e_Mo_isBridge) (h_Mo_one : ct_ok l D kA GG y_Mo_one z_Mo_one e_Mo_one) (h_Mo_px : ct_ok l D kA GG y_Mo_px z_Mo_px e_Mo_px) (h_Mo_py : ct_ok l D kA GG y_Mo_py z_Mo_py e_Mo_py) (h_Mo_tail : ct_ok l D kA GG y_Mo_tail z_Mo_tail e_Mo_tail) (h_Mo_weight : ct_ok l D kA GG y_Mo_weight z_Mo_weight e_Mo_weight) : ct_ok l D kA GG y_Mo_ofEdgeWord z_Mo_ofEdgeWord e_Mo_ofEdgeWord := chk_all_ok (FT := [(32, 13, 17), (120, 13, 61), (360, 13, 168), (1020, 13, 139), (1181, 13, 165)]) (PT := []) (CT := t_Mo_ofEdgeWord_ct) (KT := []) (NT := []) (AN := n_Mo_ofEdgeWord_an) (OT := [o_Mo_ofEdgeWord_0]) 0 356 (List.forall_mem_cons.mpr ⟨oo_Mo_ofEdgeWord_0, List.forall_mem_nil _⟩) (by decide +kernel) ⟨List.forall_mem_cons.mpr ⟨gf_Mo_32, List.forall_mem_cons.mpr ⟨gf_Mo_120, List.forall_mem_cons.mpr ⟨gf_Mo_360, List.forall_mem_cons.mpr ⟨gf_Mo_1020, List.forall_mem_cons.mpr ⟨gf_Mo_1181, List.forall_mem_nil _⟩⟩⟩⟩⟩, List.forall_mem_nil _, List.forall_mem_cons.mpr ⟨cl_virtual (y := y_Mo_tail) (ci := 13) rfl rfl ⟨_, _, rfl⟩ (by decide +kernel) h_Mo_tail wm_3045 wm_9 wm_3042 wm_3044 wv_13_8 ⟨by decide, by decide, by decide +kernel⟩ (by decide), List.forall_mem_cons.mpr ⟨cl_virtual (y := y_Mo_head) (ci := 13) rfl rfl ⟨_, _, rfl⟩ (by decide +kernel) h_Mo_head wm_3049 wm_9 wm_3046 wm_3048 wv_13_9 ⟨by decide, by decide, by decide +kernel⟩ (by decide), List.forall_mem_cons.mpr ⟨cl_virtual (y := y_Mo_one) (ci := 13) rfl rfl ⟨_, _, rfl⟩ (by decide +kernel) h_Mo_one wm_3299 wm_9 wm_3296 wm_3298 wv_16_15 ⟨by decide, by decide, by decide +kernel⟩ (by decide), List.forall_mem_cons.mpr ⟨cl_virtual (y := y_Mo_weight) (ci := 13) rfl rfl ⟨_, _, rfl⟩ (by decide +kernel) h_Mo_weight wm_3339 wm_9 wm_3336 wm_3338 wv_17_7 ⟨by decide, by decide, by decide +kernel⟩ (by decide), List.forall_mem_cons.mpr ⟨cl_virtual (y := y_Mo_isBridge) (ci := 13) rfl rfl ⟨_, _, rfl⟩ (by decide +kernel) h_Mo_isBridge wm_3343 wm_9 wm_3340 wm_3342 wv_17_8 ⟨by decide, by decide, by decide +kernel⟩ (by decide), List.forall_mem_cons.mpr ⟨cl_virtual (y := y_Mo_px) (ci := 13) rfl rfl ⟨_, _, rfl⟩ (by decide +kernel) h_Mo_px wm_3675 wm_9 wm_3672 wm_3674 wv_21_14 ⟨by decide, by decide, by decide +kernel⟩ (by decide), List.forall_mem_cons.mpr ⟨cl_virtual (y := y_Mo_py) (ci := 13) rfl rfl ⟨_, _, rfl⟩ (by decide +kernel) h_Mo_py wm_3679 wm_9 wm_3676 wm_3678 wv_21_15 ⟨by decide, by decide, by decide +kernel⟩ (by decide), List.forall_mem_cons.mpr ⟨cl_static (y := y_jMath_abs2) c_jMath_abs2_v55 wm_2082 wm_10 wm_3769 wm_2081 ⟨by decide, by decide, by decide +kernel⟩ (by decide), List.forall_mem_cons.mpr ⟨cl_static (y := y_jMath_abs2) c_jMath_abs2_v55 wm_2082 wm_10 wm_3769 wm_2081 ⟨by decide, by decide, by decide +kernel⟩ (by decide), List.forall_mem_nil _⟩⟩⟩⟩⟩⟩⟩⟩⟩, List.forall_mem_nil _, List.forall_mem_nil _⟩ (by decide +kernel)
def n_Dr_countCrossings_an : List an_T := [(4, [(0, (2, 0, 0, [0])), (1, (1, -9223372036854775808, 9223372036854775807, [])), (3, (0, 0, 48, []))], [], (0, 0), [(0, 0, 99996), (1, 2, 48), (0, 0, 100000), (0, 0, 0), (0, 0, 0), (0, 0, 0), (0, 0, 0), (0, 0, 0), (0, 0, 0)], [], [], [], 0, [], []), (20, [(0, (2, 0, 0, [0])), (1, (1, -9223372036854775808, 9223372036854775807, [])), (3, (0, 0, 47, [])), (4, (0, 1, 48, []))], [], (0, 0), [(0, 0, 99996), (1, 2, 48), (0, 0, 99980), (1, 3, 48), (0, 0, 100000), (0, 0, 0), (0, 0, 0), (0, 0, 0), (0, 0, 0)], [], [], [], 0, [], []), (44, [(0, (2, 0, 0, [0])), (1, (1, -9223372036854775808, 9223372036854775807, [])), (3, (0, 0, 47, [])), (4, (0, 1, 47, [])), (5, (0, -1, 23, [])), (6, (0, 0, 25, []))], [], (0, 0), [(0, 0, 99996), (1, 2, 48), (0, 0, 99980), (1, 3, 48), (0, 0, 99956), (1, 5, 25), (0, 0, 100000), (0, 0, 0), (0, 0, 0)], [], [], [], 0, [], []), (58, [(0, (2, 0, 0, [0])), (1, (1, -9223372036854775808, 9223372036854775807, [])), (3, (0, 0, 47, [])), (4, (0, 1, 47, [])), (5, (0, -1, 23, [])), (6, (0, 0, 24, [])), (7, (0, 0, 25, []))], [], (0, 0), [(0, 0, 99996), (1, 2, 48), (0, 0, 99980), (1, 3, 48), (0, 0, 99956), (1, 5, 25), (0, 0, 99942), (1, 6, 25), (0, 0, 100000)], [], [], [], 0, [], [])]
def t_Dr_countCrossings_ct : ct_L := [(1, 191, e_Dr_sharedNode), (1, 194, e_Dr_clash)]
set_option maxRecDepth 100000 in
theorem c_Dr_countCrossings {l : Launch} {D : va_G} {kA : Nat → ClassId} (h_Dr_clash : ct_ok l D kA GG y_Dr_clash z_Dr_clash e_Dr_clash) (h_Dr_sharedNode : ct_ok l D kA GG y_Dr_sharedNode z_Dr_sharedNode e_Dr_sharedNode) : ct_ok l D kA GG y_Dr_countCrossings z_Dr_countCrossings e_Dr_countCrossings := chk_all_ok (FT := [(22, 0, 4), (74, 0, 0), (151, 3, 1)]) (PT := []) (CT := t_Dr_countCrossings_ct) (KT := []) (NT := []) (AN := n_Dr_countCrossings_an) (OT := []) 9 268 (List.forall_mem_nil _) (by decide +kernel) ⟨List.forall_mem_cons.mpr ⟨gf_Dr_22, List.forall_mem_cons.mpr ⟨gf_Dr_74, List.forall_mem_cons.mpr ⟨gf_Dr_151, List.forall_mem_nil _⟩⟩⟩, List.forall_mem_nil _, List.forall_mem_cons.mpr ⟨cl_virtual (y := y_Dr_sharedNode) (ci := 0) rfl rfl ⟨_, _, rfl⟩ (by decide +kernel) h_Dr_sharedNode wm_2017 wm_8 wm_2014 wm_2016 wv_9_12 ⟨by decide, by decide, by decide +kernel⟩ (by decide), List.forall_mem_cons.mpr ⟨cl_virtual (y := y_Dr_clash) (ci := 0) rfl rfl ⟨_, _, rfl⟩ (by decide +kernel) h_Dr_clash wm_2021 wm_8 wm_2018 wm_2020 wv_9_13 ⟨by decide, by decide, by decide +kernel⟩ (by decide), List.forall_mem_nil _⟩⟩, List.forall_mem_nil _, List.forall_mem_nil _⟩ (by decide +kernel)
def n_Pn_fillFaces_an : List an_T := [(2, [(0, (2, 0, 0, [7])), (1, (0, 0, 72, []))], [], (0, 0), [(0, 0, 99998), (1, 1, 72), (0, 0, 100000)], [], [], [], 0, [], [])]
def t_Pn_fillFaces_ct : ct_L := [(1, 111, e_Ne_traceFaces), (1, 114, e_Pn_firstLongFace), (1, 118, e_Pn_cutFace)]
set_option maxRecDepth 100000 in
theorem c_Pn_fillFaces {l : Launch} {D : va_G} {kA : Nat → ClassId} (h_Ne_traceFaces : ct_ok l D kA GG y_Ne_traceFaces z_Ne_traceFaces e_Ne_traceFaces) (h_Pn_cutFace : ct_ok l D kA GG y_Pn_cutFace z_Pn_cutFace e_Pn_cutFace) (h_Pn_firstLongFace : ct_ok l D kA GG y_Pn_firstLongFace z_Pn_firstLongFace e_Pn_firstLongFace) : ct_ok l D kA GG y_Pn_fillFaces z_Pn_fillFaces e_Pn_fillFaces := chk_all_ok (FT := [(12, 7, 0)]) (PT := []) (CT := t_Pn_fillFaces_ct) (KT := []) (NT := []) (AN := n_Pn_fillFaces_an) (OT := []) 3 200 (List.forall_mem_nil _) (by decide +kernel) ⟨List.forall_mem_cons.mpr ⟨gf_Pn_12, List.forall_mem_nil _⟩, List.forall_mem_nil _, List.forall_mem_cons.mpr ⟨cl_virtual (y := y_Ne_traceFaces) (ci := 5) rfl rfl ⟨_, _, rfl⟩ (by decide +kernel) h_Ne_traceFaces wm_1150 wm_6 wm_1531 wm_1148 wm_1149 ⟨by decide, by decide, by decide +kernel⟩ (by decide), List.forall_mem_cons.mpr ⟨cl_virtual (y := y_Pn_firstLongFace) (ci := 7) rfl rfl ⟨_, _, rfl⟩ (by decide +kernel) h_Pn_firstLongFace wm_1539 wm_20 wm_1536 wm_1538 wv_6_7 ⟨by decide, by decide, by decide +kernel⟩ (by decide), List.forall_mem_cons.mpr ⟨cl_virtual (y := y_Pn_cutFace) (ci := 7) rfl rfl ⟨_, _, rfl⟩ (by decide +kernel) h_Pn_cutFace wm_1543 wm_20 wm_1540 wm_1542 wv_6_8 ⟨by decide, by decide, by decide +kernel⟩ (by decide), List.forall_mem_nil _⟩⟩⟩, List.forall_mem_nil _, List.forall_mem_nil _⟩ (by decide +kernel)
def n_Mo_isBarred_an : List an_T := [(3, [(0, (2, 0, 0, [150])), (1, (0, 0, 47, [])), (2, (0, -2147483648, 2147483647, [])), (3, (0, -2147483648, 2147483647, [])), (4, (0, 0, 24, []))], [], (0, 0), [(0, 0, 99997), (1, 4, 24), (0, 0, 100000)], [], [], [], 0, [], [])]
def t_Mo_isBarred_ct : ct_L := [(1, 405, e_Mo_has), (1, 475, e_Mo_nodes), (1, 1061, e_Mo_isInBox)]
set_option maxRecDepth 100000 in
theorem c_Mo_isBarred {l : Launch} {D : va_G} {kA : Nat → ClassId} (h_Mo_has : ct_ok l D kA GG y_Mo_has z_Mo_has e_Mo_has) (h_Mo_isInBox : ct_ok l D kA GG y_Mo_isInBox z_Mo_isInBox e_Mo_isInBox) (h_Mo_nodes : ct_ok l D kA GG y_Mo_nodes z_Mo_nodes e_Mo_nodes) : ct_ok l D kA GG y_Mo_isBarred z_Mo_isBarred e_Mo_isBarred := chk_all_ok (FT := []) (PT := []) (CT := t_Mo_isBarred_ct) (KT := []) (NT := []) (AN := n_Mo_isBarred_an) (OT := []) 3 200 (List.forall_mem_nil _) (by decide +kernel) ⟨List.forall_mem_nil _, List.forall_mem_nil _, List.forall_mem_cons.mpr ⟨cl_virtual (y := y_Mo_has) (ci := 13) rfl rfl ⟨_, _, rfl⟩ (by decide +kernel) h_Mo_has wm_3041 wm_9 wm_3038 wm_3040 wv_13_7 ⟨by decide, by decide, by decide +kernel⟩ (by decide), List.forall_mem_cons.mpr ⟨cl_virtual (y := y_Mo_nodes) (ci := 13) rfl rfl ⟨_, _, rfl⟩ (by decide +kernel) h_Mo_nodes wm_3025 wm_9 wm_3022 wm_3024 wv_13_3 ⟨by decide, by decide, by decide +kernel⟩ (by decide), List.forall_mem_cons.mpr ⟨cl_virtual (y := y_Mo_isInBox) (ci := 13) rfl rfl ⟨_, _, rfl⟩ (by decide +kernel) h_Mo_isInBox wm_3688 wm_9 wm_3685 wm_3687 wv_22_1 ⟨by decide, by decide, by decide +kernel⟩ (by decide), List.forall_mem_nil _⟩⟩⟩, List.forall_mem_nil _, List.forall_mem_nil _⟩ (by decide +kernel)
def n_Ho_back_an : List an_T := []
def t_Ho_back_ct : ct_L := [(0, 115, e_Ho_isPlace), (1, 129, e_Ho_forget), (1, 244, e_Gr_step)]
set_option maxRecDepth 100000 in
theorem c_Ho_back {l : Launch} {D : va_G} {kA : Nat → ClassId} (h_Gr_step : ct_ok l D kA GG y_Gr_step z_Gr_step e_Gr_step) (h_Ho_forget : ct_ok l D kA GG y_Ho_forget z_Ho_forget e_Ho_forget) (h_Ho_isPlace : ct_ok l D kA GG y_Ho_isPlace z_Ho_isPlace e_Ho_isPlace) : ct_ok l D kA GG y_Ho_back z_Ho_back e_Ho_back := chk_all_ok (FT := [(13, 12, 0)]) (PT := []) (CT := t_Ho_back_ct) (KT := []) (NT := []) (AN := n_Ho_back_an) (OT := []) 0 200 (List.forall_mem_nil _) (by decide +kernel) ⟨List.forall_mem_cons.mpr ⟨gf_Ho_13, List.forall_mem_nil _⟩, List.forall_mem_nil _, List.forall_mem_cons.mpr ⟨cl_static (y := y_Ho_isPlace) h_Ho_isPlace wm_633 wm_1 wm_631 wm_632 ⟨by decide, by decide, by decide +kernel⟩ (by decide), List.forall_mem_cons.mpr ⟨cl_virtual (y := y_Ho_forget) (ci := 12) rfl rfl ⟨_, _, rfl⟩ (by decide +kernel) h_Ho_forget wm_789 wm_1 wm_786 wm_788 wv_1_13 ⟨by decide, by decide, by decide +kernel⟩ (by decide), List.forall_mem_cons.mpr ⟨cl_virtual (y := y_Gr_step) (ci := 3) rfl rfl ⟨_, _, rfl⟩ (by decide +kernel) h_Gr_step wm_1005 wm_3 wm_1002 wm_1003 wm_1004 ⟨by decide, by decide, by decide +kernel⟩ (by decide), List.forall_mem_nil _⟩⟩⟩, List.forall_mem_nil _, List.forall_mem_nil _⟩ (by decide +kernel)
def n_Mo_crossAtShared_an : List an_T := [(3, [(0, (2, 0, 0, [150])), (1, (0, 0, 47, [])), (2, (0, 0, 47, [])), (3, (1, -2147483648, 2147483647, [])), (5, (1, -2147483648, 2147483647, [])), (7, (1, -2147483648, 2147483647, [])), (9, (1, -2147483648, 2147483647, [])), (11, (1, -2147483648, 2147483647, [])), (13, (1, -2147483648, 2147483647, [])), (15, (1, -2147483648, 2147483647, [])), (17, (1, -2147483648, 2147483647, [])), (19, (0, 0, 24, []))], [], (0, 0), [(0, 0, 99997), (1, 11, 24), (0, 0, 100000)], [], [], [], 0, [], [])]
def t_Mo_crossAtShared_ct : ct_L := [(0, 1107, e_Mo_isOn), (1, 405, e_Mo_has), (1, 475, e_Mo_nodes), (1, 1023, e_Mo_px), (1, 1029, e_Mo_py)]
set_option maxRecDepth 100000 in
theorem c_Mo_crossAtShared {l : Launch} {D : va_G} {kA : Nat → ClassId} (h_Mo_has : ct_ok l D kA GG y_Mo_has z_Mo_has e_Mo_has) (h_Mo_isOn : ct_ok l D kA GG y_Mo_isOn z_Mo_isOn e_Mo_isOn) (h_Mo_nodes : ct_ok l D kA GG y_Mo_nodes z_Mo_nodes e_Mo_nodes) (h_Mo_px : ct_ok l D kA GG y_Mo_px z_Mo_px e_Mo_px) (h_Mo_py : ct_ok l D kA GG y_Mo_py z_Mo_py e_Mo_py) : ct_ok l D kA GG y_Mo_crossAtShared z_Mo_crossAtShared e_Mo_crossAtShared := chk_all_ok (FT := []) (PT := []) (CT := t_Mo_crossAtShared_ct) (KT := []) (NT := []) (AN := n_Mo_crossAtShared_an) (OT := []) 3 336 (List.forall_mem_nil _) (by decide +kernel) ⟨List.forall_mem_nil _, List.forall_mem_nil _, List.forall_mem_cons.mpr ⟨cl_static (y := y_Mo_isOn) h_Mo_isOn wm_3755 wm_9 wm_3753 wm_3754 ⟨by decide, by decide, by decide +kernel⟩ (by decide), List.forall_mem_cons.mpr ⟨cl_virtual (y := y_Mo_has) (ci := 13) rfl rfl ⟨_, _, rfl⟩ (by decide +kernel) h_Mo_has wm_3041 wm_9 wm_3038 wm_3040 wv_13_7 ⟨by decide, by decide, by decide +kernel⟩ (by decide), List.forall_mem_cons.mpr ⟨cl_virtual (y := y_Mo_nodes) (ci := 13) rfl rfl ⟨_, _, rfl⟩ (by decide +kernel) h_Mo_nodes wm_3025 wm_9 wm_3022 wm_3024 wv_13_3 ⟨by decide, by decide, by decide +kernel⟩ (by decide), List.forall_mem_cons.mpr ⟨cl_virtual (y := y_Mo_px) (ci := 13) rfl rfl ⟨_, _, rfl⟩ (by decide +kernel) h_Mo_px wm_3675 wm_9 wm_3672 wm_3674 wv_21_14 ⟨by decide, by decide, by decide +kernel⟩ (by decide), List.forall_mem_cons.mpr ⟨cl_virtual (y := y_Mo_py) (ci := 13) rfl rfl ⟨_, _, rfl⟩ (by decide +kernel) h_Mo_py wm_3679 wm_9 wm_3676 wm_3678 wv_21_15 ⟨by decide, by decide, by decide +kernel⟩ (by decide), List.forall_mem_nil _⟩⟩⟩⟩⟩, List.forall_mem_nil _, List.forall_mem_nil _⟩ (by decide +kernel)
def o_Mo_cut_0 : or_T := (40, 12, [(0, (2, 0, 0, [150])), (1, (0, 0, 159, [])), (3, (0, 1, 160, [])), (4, (2, 0, 0, [183])), (5, (0, 1, 1, [])), (6, (0, 1, 160, [])), (7, (0, 4, 160, [])), (8, (0, 0, 160, [])), (9, (0, 4, 160, [])), (10, (0, 3, 3, []))], [(7, [9, 10], [4]), (2, [9, 7, 8], []), (10, [8, 4, 1], []), (9, [4, 0], [56]), (10, [7, 4, 6], []), (1, [6, 1, 5], []), (7, [1, 3], [2]), (9, [3, 0], [53])], [], [], [(20, [0, 1, 9], [30, 160, 1, 2, 56, 1, 0, 0])], [], [(9, 7, -160, 0), (6, 1, 1, 1), (6, 3, -4294967296, 0), (1, 3, -4294967296, -1)])
theorem oo_Mo_cut_0 {kA : Nat → ClassId} : or_ok kA GG o_Mo_cut_0 := by
  intro A ta ws vs hD hth hl hk hds hf
  have hl : vs.length = 12 := hl
  have hk : ∀ q ∈ ([(0, (2, 0, 0, [150])), (1, (0, 0, 159, [])), (3, (0, 1, 160, [])), (4, (2, 0, 0, [183])), (5, (0, 1, 1, [])), (6, (0, 1, 160, [])), (7, (0, 4, 160, [])), (8, (0, 0, 160, [])), (9, (0, 4, 160, [])), (10, (0, 3, 3, []))] : List (Nat × tv_T)), tv_ok ta q.2 (n_v vs q.1) := hk
  obtain ⟨t0, hk⟩ := List.forall_mem_cons.mp hk
  have t0 : tv_ok ta (2, 0, 0, [150]) (n_v vs 0) := t0
  have r0 : ta (v_ad (n_v vs 0)) = some 150 := tv_rg t0
  obtain ⟨t1, hk⟩ := List.forall_mem_cons.mp hk
  have t1 : tv_ok ta (0, 0, 159, []) (n_v vs 1) := t1
  have k1 : 0 ≤ v_iv (n_v vs 1) ∧ v_iv (n_v vs 1) ≤ 159 := tv_rng t1
  obtain ⟨t3, hk⟩ := List.forall_mem_cons.mp hk
  have t3 : tv_ok ta (0, 1, 160, []) (n_v vs 3) := t3
  have k3 : 1 ≤ v_iv (n_v vs 3) ∧ v_iv (n_v vs 3) ≤ 160 := tv_rng t3
  obtain ⟨t4, hk⟩ := List.forall_mem_cons.mp hk
  have t4 : tv_ok ta (2, 0, 0, [183]) (n_v vs 4) := t4
  have r4 : ta (v_ad (n_v vs 4)) = some 183 := tv_rg t4
  obtain ⟨t5, hk⟩ := List.forall_mem_cons.mp hk
  have t5 : tv_ok ta (0, 1, 1, []) (n_v vs 5) := t5
  have k5 : 1 ≤ v_iv (n_v vs 5) ∧ v_iv (n_v vs 5) ≤ 1 := tv_rng t5
  obtain ⟨t6, hk⟩ := List.forall_mem_cons.mp hk
  have t6 : tv_ok ta (0, 1, 160, []) (n_v vs 6) := t6
  have k6 : 1 ≤ v_iv (n_v vs 6) ∧ v_iv (n_v vs 6) ≤ 160 := tv_rng t6
  obtain ⟨t7, hk⟩ := List.forall_mem_cons.mp hk
  have t7 : tv_ok ta (0, 4, 160, []) (n_v vs 7) := t7
  have k7 : 4 ≤ v_iv (n_v vs 7) ∧ v_iv (n_v vs 7) ≤ 160 := tv_rng t7
  obtain ⟨t8, hk⟩ := List.forall_mem_cons.mp hk
  have t8 : tv_ok ta (0, 0, 160, []) (n_v vs 8) := t8
  have k8 : 0 ≤ v_iv (n_v vs 8) ∧ v_iv (n_v vs 8) ≤ 160 := tv_rng t8
  obtain ⟨t9, hk⟩ := List.forall_mem_cons.mp hk
  have t9 : tv_ok ta (0, 4, 160, []) (n_v vs 9) := t9
  have k9 : 4 ≤ v_iv (n_v vs 9) ∧ v_iv (n_v vs 9) ≤ 160 := tv_rng t9
  obtain ⟨t10, hk⟩ := List.forall_mem_cons.mp hk
  have t10 : tv_ok ta (0, 3, 3, []) (n_v vs 10) := t10
  have k10 : 3 ≤ v_iv (n_v vs 10) ∧ v_iv (n_v vs 10) ≤ 3 := tv_rng t10
  have hds : ∀ q ∈ ([(9, 7, -160, 0), (6, 1, 1, 1), (6, 3, -4294967296, 0), (1, 3, -4294967296, -1)] : List of_T), n_iv vs q.2.1 + q.2.2.1 ≤ n_iv vs q.1 ∧ n_iv vs q.1 ≤ n_iv vs q.2.1 + q.2.2.2 := hds
  obtain ⟨d0, hds⟩ := List.forall_mem_cons.mp hds
  have d0 : v_iv (n_v vs 7) + (-160) ≤ v_iv (n_v vs 9) ∧ v_iv (n_v vs 9) ≤ v_iv (n_v vs 7) + 0 := d0
  obtain ⟨d1, hds⟩ := List.forall_mem_cons.mp hds
  have d1 : v_iv (n_v vs 1) + 1 ≤ v_iv (n_v vs 6) ∧ v_iv (n_v vs 6) ≤ v_iv (n_v vs 1) + 1 := d1
  obtain ⟨d2, hds⟩ := List.forall_mem_cons.mp hds
  have d2 : v_iv (n_v vs 3) + (-4294967296) ≤ v_iv (n_v vs 6) ∧ v_iv (n_v vs 6) ≤ v_iv (n_v vs 3) + 0 := d2
  obtain ⟨d3, hds⟩ := List.forall_mem_cons.mp hds
  have d3 : v_iv (n_v vs 3) + (-4294967296) ≤ v_iv (n_v vs 1) ∧ v_iv (n_v vs 1) ≤ v_iv (n_v vs 3) + (-1) := d3
  have hf : fc_ok [(7, [9, 10], [4]), (2, [9, 7, 8], []), (10, [8, 4, 1], []), (9, [4, 0], [56]), (10, [7, 4, 6], []), (1, [6, 1, 5], []), (7, [1, 3], [2]), (9, [3, 0], [53])] ta ws vs := hf
  obtain ⟨f0, hf⟩ := fc_un (by decide) hf
  have f0 : v_iv (n_v vs 10) < v_iv (n_v vs 9) := f0
  obtain ⟨f1, hf⟩ := fc_un (by decide) hf
  have f1 : v_iv (n_v vs 9) = v_iv (n_v vs 7) - v_iv (n_v vs 8) := f1
  obtain ⟨f2, hf⟩ := fc_un (by decide) hf
  have f2 : v_iv (n_v vs 8) = w_el ws (v_ad (n_v vs 4)) (v_iv (n_v vs 1)).toNat := f2
  obtain ⟨f3, hf⟩ := fc_un (by decide) hf
  have f3 : n_v vs 4 = w_fd ws (v_ad (n_v vs 0)) 56 := f3
  obtain ⟨f4, hf⟩ := fc_un (by decide) hf
  have f4 : v_iv (n_v vs 7) = w_el ws (v_ad (n_v vs 4)) (v_iv (n_v vs 6)).toNat := f4
  obtain ⟨f5, hf⟩ := fc_un (by decide) hf
  have f5 : v_iv (n_v vs 6) = v_iv (n_v vs 1) + v_iv (n_v vs 5) := f5
  obtain ⟨f6, hf⟩ := fc_un (by decide) hf
  have f6 : v_iv (n_v vs 1) < v_iv (n_v vs 3) := f6
  obtain ⟨f7, hf⟩ := fc_un (by decide) hf
  have f7 : n_v vs 3 = w_fd ws (v_ad (n_v vs 0)) 53 := f7
  have cr_0_56 : ta (w_ar ws (n_v vs 0) 56) = some 183 := tv_rg (th_fd hD hth r0 (g := GG_150) rfl (k := 56) (t := (2, 0, 0, [183])) rfl rfl)
  have ad_4 : v_ad (n_v vs 4) = w_ar ws (n_v vs 0) 56 := congrArg v_ad f3
  rw [ad_4] at f2
  rw [ad_4] at f4
  have g7 : v_iv (n_v vs 3) = w_fi ws (n_v vs 0) 53 := congrArg v_iv f7
  have nf0 : fc_1 (20, [0, 1, 9], [30, 160, 1, 2, 56, 1, 0, 0]) ws (vs) := by
    refine ⟨fun n hn => ?_, ?_⟩
    · have hn : n ∈ [0, 1, 9] := hn
      rw [hl]
      simp only [List.mem_cons, List.not_mem_nil, or_false] at hn
      show n < 12; omega
    · show 1 * w_el ws (w_ar ws (n_v vs 0) 56) (v_iv (n_v vs 1)).toNat + (1 * v_iv (n_v vs 9) + 0) ≤ 160
      omega
  refine ⟨(fun _ h => (by cases h)), [], trivial, ?_, (fun _ h => (by cases h))⟩
  rw [List.append_nil]
  exact List.forall_mem_cons.mpr ⟨⟨by decide, nf0⟩, (fun _ h => (by cases h))⟩
def o_Mo_cut_1 : or_T := (57, 9, [(0, (2, 0, 0, [150])), (1, (0, 0, 159, [])), (2, (0, 4, 160, [])), (3, (0, 0, 159, [])), (6, (2, 0, 0, [183])), (7, (0, 0, 160, [])), (8, (0, 0, 319, []))], [(1, [8, 7, 3], []), (10, [7, 6, 1], []), (9, [6, 0], [56]), (7, [3, 2], [2]), (20, [0, 1, 2], [30, 160, 1, 2, 56, 1, 0, 0])], [(8, (0, 0, 159, []))], [], [], [], [(8, 3, 0, 160), (8, 2, -4294967296, 159), (8, 7, 0, 159), (3, 2, -4294967296, -1), (2, 1, -4294967296, 160), (2, 3, -4294967296, 160)])
theorem oo_Mo_cut_1 {kA : Nat → ClassId} : or_ok kA GG o_Mo_cut_1 := by
  intro A ta ws vs hD hth hl hk hds hf
  have hl : vs.length = 9 := hl
  have hk : ∀ q ∈ ([(0, (2, 0, 0, [150])), (1, (0, 0, 159, [])), (2, (0, 4, 160, [])), (3, (0, 0, 159, [])), (6, (2, 0, 0, [183])), (7, (0, 0, 160, [])), (8, (0, 0, 319, []))] : List (Nat × tv_T)), tv_ok ta q.2 (n_v vs q.1) := hk
  obtain ⟨t0, hk⟩ := List.forall_mem_cons.mp hk
  have t0 : tv_ok ta (2, 0, 0, [150]) (n_v vs 0) := t0
  have r0 : ta (v_ad (n_v vs 0)) = some 150 := tv_rg t0
  obtain ⟨t1, hk⟩ := List.forall_mem_cons.mp hk
  have t1 : tv_ok ta (0, 0, 159, []) (n_v vs 1) := t1
  have k1 : 0 ≤ v_iv (n_v vs 1) ∧ v_iv (n_v vs 1) ≤ 159 := tv_rng t1
  obtain ⟨t2, hk⟩ := List.forall_mem_cons.mp hk
  have t2 : tv_ok ta (0, 4, 160, []) (n_v vs 2) := t2
  have k2 : 4 ≤ v_iv (n_v vs 2) ∧ v_iv (n_v vs 2) ≤ 160 := tv_rng t2
  obtain ⟨t3, hk⟩ := List.forall_mem_cons.mp hk
  have t3 : tv_ok ta (0, 0, 159, []) (n_v vs 3) := t3
  have k3 : 0 ≤ v_iv (n_v vs 3) ∧ v_iv (n_v vs 3) ≤ 159 := tv_rng t3
  obtain ⟨t6, hk⟩ := List.forall_mem_cons.mp hk
  have t6 : tv_ok ta (2, 0, 0, [183]) (n_v vs 6) := t6
  have r6 : ta (v_ad (n_v vs 6)) = some 183 := tv_rg t6
  obtain ⟨t7, hk⟩ := List.forall_mem_cons.mp hk
  have t7 : tv_ok ta (0, 0, 160, []) (n_v vs 7) := t7
  have k7 : 0 ≤ v_iv (n_v vs 7) ∧ v_iv (n_v vs 7) ≤ 160 := tv_rng t7
  obtain ⟨t8, hk⟩ := List.forall_mem_cons.mp hk
  have t8 : tv_ok ta (0, 0, 319, []) (n_v vs 8) := t8
  have k8 : 0 ≤ v_iv (n_v vs 8) ∧ v_iv (n_v vs 8) ≤ 319 := tv_rng t8
  have hds : ∀ q ∈ ([(8, 3, 0, 160), (8, 2, -4294967296, 159), (8, 7, 0, 159), (3, 2, -4294967296, -1), (2, 1, -4294967296, 160), (2, 3, -4294967296, 160)] : List of_T), n_iv vs q.2.1 + q.2.2.1 ≤ n_iv vs q.1 ∧ n_iv vs q.1 ≤ n_iv vs q.2.1 + q.2.2.2 := hds
  obtain ⟨d0, hds⟩ := List.forall_mem_cons.mp hds
  have d0 : v_iv (n_v vs 3) + 0 ≤ v_iv (n_v vs 8) ∧ v_iv (n_v vs 8) ≤ v_iv (n_v vs 3) + 160 := d0
  obtain ⟨d1, hds⟩ := List.forall_mem_cons.mp hds
  have d1 : v_iv (n_v vs 2) + (-4294967296) ≤ v_iv (n_v vs 8) ∧ v_iv (n_v vs 8) ≤ v_iv (n_v vs 2) + 159 := d1
  obtain ⟨d2, hds⟩ := List.forall_mem_cons.mp hds
  have d2 : v_iv (n_v vs 7) + 0 ≤ v_iv (n_v vs 8) ∧ v_iv (n_v vs 8) ≤ v_iv (n_v vs 7) + 159 := d2
  obtain ⟨d3, hds⟩ := List.forall_mem_cons.mp hds
  have d3 : v_iv (n_v vs 2) + (-4294967296) ≤ v_iv (n_v vs 3) ∧ v_iv (n_v vs 3) ≤ v_iv (n_v vs 2) + (-1) := d3
  obtain ⟨d4, hds⟩ := List.forall_mem_cons.mp hds
  have d4 : v_iv (n_v vs 1) + (-4294967296) ≤ v_iv (n_v vs 2) ∧ v_iv (n_v vs 2) ≤ v_iv (n_v vs 1) + 160 := d4
  obtain ⟨d5, hds⟩ := List.forall_mem_cons.mp hds
  have d5 : v_iv (n_v vs 3) + (-4294967296) ≤ v_iv (n_v vs 2) ∧ v_iv (n_v vs 2) ≤ v_iv (n_v vs 3) + 160 := d5
  have hf : fc_ok [(1, [8, 7, 3], []), (10, [7, 6, 1], []), (9, [6, 0], [56]), (7, [3, 2], [2]), (20, [0, 1, 2], [30, 160, 1, 2, 56, 1, 0, 0])] ta ws vs := hf
  obtain ⟨f0, hf⟩ := fc_un (by decide) hf
  have f0 : v_iv (n_v vs 8) = v_iv (n_v vs 7) + v_iv (n_v vs 3) := f0
  obtain ⟨f1, hf⟩ := fc_un (by decide) hf
  have f1 : v_iv (n_v vs 7) = w_el ws (v_ad (n_v vs 6)) (v_iv (n_v vs 1)).toNat := f1
  obtain ⟨f2, hf⟩ := fc_un (by decide) hf
  have f2 : n_v vs 6 = w_fd ws (v_ad (n_v vs 0)) 56 := f2
  obtain ⟨f3, hf⟩ := fc_un (by decide) hf
  have f3 : v_iv (n_v vs 3) < v_iv (n_v vs 2) := f3
  obtain ⟨f4, hf⟩ := fc_un (by decide) hf
  have f4 : 1 * w_el ws (w_ar ws (n_v vs 0) 56) (v_iv (n_v vs 1)).toNat + (1 * v_iv (n_v vs 2) + 0) ≤ 160 := f4
  have cr_0_56 : ta (w_ar ws (n_v vs 0) 56) = some 183 := tv_rg (th_fd hD hth r0 (g := GG_150) rfl (k := 56) (t := (2, 0, 0, [183])) rfl rfl)
  have ad_6 : v_ad (n_v vs 6) = w_ar ws (n_v vs 0) 56 := congrArg v_ad f2
  rw [ad_6] at f1
  have rf8 : tv_ok ta (0, 0, 159, []) (n_v vs 8) := tv_in t8 (by omega) (by omega)
  refine ⟨List.forall_mem_cons.mpr ⟨rf8, (fun _ h => (by cases h))⟩, [], trivial, ?_, (fun _ h => (by cases h))⟩
  rw [List.append_nil]
  exact (fun _ h => (by cases h))
def o_Mo_cut_2 : or_T := (76, 15, [(0, (2, 0, 0, [150])), (1, (0, 0, 159, [])), (2, (0, 4, 160, [])), (3, (0, 0, 159, [])), (6, (2, 0, 0, [183])), (7, (0, 0, 160, [])), (8, (0, 0, 159, [])), (10, (0, 0, 160, [])), (13, (0, 0, 159, [])), (14, (0, 0, 319, []))], [(1, [14, 10, 13], []), (10, [10, 6, 1], []), (9, [6, 0], [56]), (1, [8, 7, 3], []), (10, [7, 6, 1], []), (7, [3, 2], [2]), (20, [0, 1, 2], [30, 160, 1, 2, 56, 1, 0, 0])], [(14, (0, 0, 159, []))], [], [], [], [(14, 13, 0, 160), (14, 2, -4294967295, 159), (14, 1, -4294967296, 319), (14, 3, -4294967296, 319), (14, 10, 0, 159), (13, 2, -4294967295, -1), (13, 1, -4294967296, 159), (13, 3, -4294967296, 159), (8, 3, 0, 160), (8, 2, -4294967296, 159), (8, 7, 0, 159), (3, 2, -4294967296, -1), (2, 1, -4294967296, 160), (2, 3, -4294967296, 160)])
theorem oo_Mo_cut_2 {kA : Nat → ClassId} : or_ok kA GG o_Mo_cut_2 := by
  intro A ta ws vs hD hth hl hk hds hf
  have hl : vs.length = 15 := hl
  have hk : ∀ q ∈ ([(0, (2, 0, 0, [150])), (1, (0, 0, 159, [])), (2, (0, 4, 160, [])), (3, (0, 0, 159, [])), (6, (2, 0, 0, [183])), (7, (0, 0, 160, [])), (8, (0, 0, 159, [])), (10, (0, 0, 160, [])), (13, (0, 0, 159, [])), (14, (0, 0, 319, []))] : List (Nat × tv_T)), tv_ok ta q.2 (n_v vs q.1) := hk
  obtain ⟨t0, hk⟩ := List.forall_mem_cons.mp hk
  have t0 : tv_ok ta (2, 0, 0, [150]) (n_v vs 0) := t0
  have r0 : ta (v_ad (n_v vs 0)) = some 150 := tv_rg t0
  obtain ⟨t1, hk⟩ := List.forall_mem_cons.mp hk
  have t1 : tv_ok ta (0, 0, 159, []) (n_v vs 1) := t1
  have k1 : 0 ≤ v_iv (n_v vs 1) ∧ v_iv (n_v vs 1) ≤ 159 := tv_rng t1
  obtain ⟨t2, hk⟩ := List.forall_mem_cons.mp hk
  have t2 : tv_ok ta (0, 4, 160, []) (n_v vs 2) := t2
  have k2 : 4 ≤ v_iv (n_v vs 2) ∧ v_iv (n_v vs 2) ≤ 160 := tv_rng t2
  obtain ⟨t3, hk⟩ := List.forall_mem_cons.mp hk
  have t3 : tv_ok ta (0, 0, 159, []) (n_v vs 3) := t3
  have k3 : 0 ≤ v_iv (n_v vs 3) ∧ v_iv (n_v vs 3) ≤ 159 := tv_rng t3
  obtain ⟨t6, hk⟩ := List.forall_mem_cons.mp hk
  have t6 : tv_ok ta (2, 0, 0, [183]) (n_v vs 6) := t6
  have r6 : ta (v_ad (n_v vs 6)) = some 183 := tv_rg t6
  obtain ⟨t7, hk⟩ := List.forall_mem_cons.mp hk
  have t7 : tv_ok ta (0, 0, 160, []) (n_v vs 7) := t7
  have k7 : 0 ≤ v_iv (n_v vs 7) ∧ v_iv (n_v vs 7) ≤ 160 := tv_rng t7
  obtain ⟨t8, hk⟩ := List.forall_mem_cons.mp hk
  have t8 : tv_ok ta (0, 0, 159, []) (n_v vs 8) := t8
  have k8 : 0 ≤ v_iv (n_v vs 8) ∧ v_iv (n_v vs 8) ≤ 159 := tv_rng t8
  obtain ⟨t10, hk⟩ := List.forall_mem_cons.mp hk
  have t10 : tv_ok ta (0, 0, 160, []) (n_v vs 10) := t10
  have k10 : 0 ≤ v_iv (n_v vs 10) ∧ v_iv (n_v vs 10) ≤ 160 := tv_rng t10
  obtain ⟨t13, hk⟩ := List.forall_mem_cons.mp hk
  have t13 : tv_ok ta (0, 0, 159, []) (n_v vs 13) := t13
  have k13 : 0 ≤ v_iv (n_v vs 13) ∧ v_iv (n_v vs 13) ≤ 159 := tv_rng t13
  obtain ⟨t14, hk⟩ := List.forall_mem_cons.mp hk
  have t14 : tv_ok ta (0, 0, 319, []) (n_v vs 14) := t14
  have k14 : 0 ≤ v_iv (n_v vs 14) ∧ v_iv (n_v vs 14) ≤ 319 := tv_rng t14
  have hds : ∀ q ∈ ([(14, 13, 0, 160), (14, 2, -4294967295, 159), (14, 1, -4294967296, 319), (14, 3, -4294967296, 319), (14, 10, 0, 159), (13, 2, -4294967295, -1), (13, 1, -4294967296, 159), (13, 3, -4294967296, 159), (8, 3, 0, 160), (8, 2, -4294967296, 159), (8, 7, 0, 159), (3, 2, -4294967296, -1), (2, 1, -4294967296, 160), (2, 3, -4294967296, 160)] : List of_T), n_iv vs q.2.1 + q.2.2.1 ≤ n_iv vs q.1 ∧ n_iv vs q.1 ≤ n_iv vs q.2.1 + q.2.2.2 := hds
  obtain ⟨d0, hds⟩ := List.forall_mem_cons.mp hds
  have d0 : v_iv (n_v vs 13) + 0 ≤ v_iv (n_v vs 14) ∧ v_iv (n_v vs 14) ≤ v_iv (n_v vs 13) + 160 := d0
  obtain ⟨d1, hds⟩ := List.forall_mem_cons.mp hds
  have d1 : v_iv (n_v vs 2) + (-4294967295) ≤ v_iv (n_v vs 14) ∧ v_iv (n_v vs 14) ≤ v_iv (n_v vs 2) + 159 := d1
  obtain ⟨d2, hds⟩ := List.forall_mem_cons.mp hds
  have d2 : v_iv (n_v vs 1) + (-4294967296) ≤ v_iv (n_v vs 14) ∧ v_iv (n_v vs 14) ≤ v_iv (n_v vs 1) + 319 := d2
  obtain ⟨d3, hds⟩ := List.forall_mem_cons.mp hds
  have d3 : v_iv (n_v vs 3) + (-4294967296) ≤ v_iv (n_v vs 14) ∧ v_iv (n_v vs 14) ≤ v_iv (n_v vs 3) + 319 := d3
  obtain ⟨d4, hds⟩ := List.forall_mem_cons.mp hds
  have d4 : v_iv (n_v vs 10) + 0 ≤ v_iv (n_v vs 14) ∧ v_iv (n_v vs 14) ≤ v_iv (n_v vs 10) + 159 := d4
  obtain ⟨d5, hds⟩ := List.forall_mem_cons.mp hds
  have d5 : v_iv (n_v vs 2) + (-4294967295) ≤ v_iv (n_v vs 13) ∧ v_iv (n_v vs 13) ≤ v_iv (n_v vs 2) + (-1) := d5
  obtain ⟨d6, hds⟩ := List.forall_mem_cons.mp hds
  have d6 : v_iv (n_v vs 1) + (-4294967296) ≤ v_iv (n_v vs 13) ∧ v_iv (n_v vs 13) ≤ v_iv (n_v vs 1) + 159 := d6
  obtain ⟨d7, hds⟩ := List.forall_mem_cons.mp hds
  have d7 : v_iv (n_v vs 3) + (-4294967296) ≤ v_iv (n_v vs 13) ∧ v_iv (n_v vs 13) ≤ v_iv (n_v vs 3) + 159 := d7
  obtain ⟨d8, hds⟩ := List.forall_mem_cons.mp hds
  have d8 : v_iv (n_v vs 3) + 0 ≤ v_iv (n_v vs 8) ∧ v_iv (n_v vs 8) ≤ v_iv (n_v vs 3) + 160 := d8
  obtain ⟨d9, hds⟩ := List.forall_mem_cons.mp hds
  have d9 : v_iv (n_v vs 2) + (-4294967296) ≤ v_iv (n_v vs 8) ∧ v_iv (n_v vs 8) ≤ v_iv (n_v vs 2) + 159 := d9
  obtain ⟨d10, hds⟩ := List.forall_mem_cons.mp hds
  have d10 : v_iv (n_v vs 7) + 0 ≤ v_iv (n_v vs 8) ∧ v_iv (n_v vs 8) ≤ v_iv (n_v vs 7) + 159 := d10
  obtain ⟨d11, hds⟩ := List.forall_mem_cons.mp hds
  have d11 : v_iv (n_v vs 2) + (-4294967296) ≤ v_iv (n_v vs 3) ∧ v_iv (n_v vs 3) ≤ v_iv (n_v vs 2) + (-1) := d11
  obtain ⟨d12, hds⟩ := List.forall_mem_cons.mp hds
  have d12 : v_iv (n_v vs 1) + (-4294967296) ≤ v_iv (n_v vs 2) ∧ v_iv (n_v vs 2) ≤ v_iv (n_v vs 1) + 160 := d12
  obtain ⟨d13, hds⟩ := List.forall_mem_cons.mp hds
  have d13 : v_iv (n_v vs 3) + (-4294967296) ≤ v_iv (n_v vs 2) ∧ v_iv (n_v vs 2) ≤ v_iv (n_v vs 3) + 160 := d13
  have hf : fc_ok [(1, [14, 10, 13], []), (10, [10, 6, 1], []), (9, [6, 0], [56]), (1, [8, 7, 3], []), (10, [7, 6, 1], []), (7, [3, 2], [2]), (20, [0, 1, 2], [30, 160, 1, 2, 56, 1, 0, 0])] ta ws vs := hf
  obtain ⟨f0, hf⟩ := fc_un (by decide) hf
  have f0 : v_iv (n_v vs 14) = v_iv (n_v vs 10) + v_iv (n_v vs 13) := f0
  obtain ⟨f1, hf⟩ := fc_un (by decide) hf
  have f1 : v_iv (n_v vs 10) = w_el ws (v_ad (n_v vs 6)) (v_iv (n_v vs 1)).toNat := f1
  obtain ⟨f2, hf⟩ := fc_un (by decide) hf
  have f2 : n_v vs 6 = w_fd ws (v_ad (n_v vs 0)) 56 := f2
  obtain ⟨f3, hf⟩ := fc_un (by decide) hf
  have f3 : v_iv (n_v vs 8) = v_iv (n_v vs 7) + v_iv (n_v vs 3) := f3
  obtain ⟨f4, hf⟩ := fc_un (by decide) hf
  have f4 : v_iv (n_v vs 7) = w_el ws (v_ad (n_v vs 6)) (v_iv (n_v vs 1)).toNat := f4
  obtain ⟨f5, hf⟩ := fc_un (by decide) hf
  have f5 : v_iv (n_v vs 3) < v_iv (n_v vs 2) := f5
  obtain ⟨f6, hf⟩ := fc_un (by decide) hf
  have f6 : 1 * w_el ws (w_ar ws (n_v vs 0) 56) (v_iv (n_v vs 1)).toNat + (1 * v_iv (n_v vs 2) + 0) ≤ 160 := f6
  have cr_0_56 : ta (w_ar ws (n_v vs 0) 56) = some 183 := tv_rg (th_fd hD hth r0 (g := GG_150) rfl (k := 56) (t := (2, 0, 0, [183])) rfl rfl)
  have ad_6 : v_ad (n_v vs 6) = w_ar ws (n_v vs 0) 56 := congrArg v_ad f2
  rw [ad_6] at f1
  rw [ad_6] at f4
  have rf14 : tv_ok ta (0, 0, 159, []) (n_v vs 14) := tv_in t14 (by omega) (by omega)
  refine ⟨List.forall_mem_cons.mpr ⟨rf14, (fun _ h => (by cases h))⟩, [], trivial, ?_, (fun _ h => (by cases h))⟩
  rw [List.append_nil]
  exact (fun _ h => (by cases h))
def n_Mo_cut_an : List an_T := [(6, [(0, (2, 0, 0, [150])), (1, (0, 0, 160, []))], [], (0, 0), [(0, 0, 99994), (1, 1, 160), (0, 0, 100000), (0, 0, 0), (0, 0, 0)], [(2, 1, -1000000000000, 80)], [((0, 32), (0, 0, 80, []))], [], 0, [], []), (40, [(0, (2, 0, 0, [150])), (1, (0, 0, 159, [])), (2, (0, 4, 160, [])), (3, (0, 0, 160, []))], [], (0, 0), [(0, 0, 99994), (1, 1, 160), (0, 0, 99960), (1, 3, 160), (0, 0, 100000)], [(2, 1, -1000000000000, 160), (2, 3, -1000000000000, 160), (2, 4, -1000000000000, 160), (4, 1, -1000000000000, 80), (4, 2, -1000000000000, 76), (4, 3, -1000000000000, 80)], [((0, 32), (0, 0, 80, []))], [], 0, [], [(20, [0, 1, 2], [30, 160, 1, 2, 56, 1, 0, 0])])]
def t_Mo_cut_ct : ct_L := [(1, 646, e_Mo_edgeOf), (1, 680, e_Mo_toOf), (1, 707, e_Mo_goRound), (1, 713, e_Mo_fromOf), (1, 886, e_Mo_newLine), (1, 898, e_Mo_putAhead), (1, 901, e_Mo_putBehind)]
set_option maxRecDepth 100000 in
theorem c_Mo_cut {l : Launch} {D : va_G} {kA : Nat → ClassId} (h_Mo_edgeOf : ct_ok l D kA GG y_Mo_edgeOf z_Mo_edgeOf e_Mo_edgeOf) (h_Mo_fromOf : ct_ok l D kA GG y_Mo_fromOf z_Mo_fromOf e_Mo_fromOf) (h_Mo_goRound : ct_ok l D kA GG y_Mo_goRound z_Mo_goRound e_Mo_goRound) (h_Mo_newLine : ct_ok l D kA GG y_Mo_newLine z_Mo_newLine e_Mo_newLine) (h_Mo_putAhead : ct_ok l D kA GG y_Mo_putAhead z_Mo_putAhead e_Mo_putAhead) (h_Mo_putBehind : ct_ok l D kA GG y_Mo_putBehind z_Mo_putBehind e_Mo_putBehind) (h_Mo_toOf : ct_ok l D kA GG y_Mo_toOf z_Mo_toOf e_Mo_toOf) : ct_ok l D kA GG y_Mo_cut z_Mo_cut e_Mo_cut := chk_all_ok (FT := [(111, 13, 56), (114, 13, 57), (683, 13, 53)]) (PT := []) (CT := t_Mo_cut_ct) (KT := []) (NT := []) (AN := n_Mo_cut_an) (OT := [o_Mo_cut_0, o_Mo_cut_1, o_Mo_cut_2]) 5 404 (List.forall_mem_cons.mpr ⟨oo_Mo_cut_0, List.forall_mem_cons.mpr ⟨oo_Mo_cut_1, List.forall_mem_cons.mpr ⟨oo_Mo_cut_2, List.forall_mem_nil _⟩⟩⟩) (by decide +kernel) ⟨List.forall_mem_cons.mpr ⟨gf_Mo_111, List.forall_mem_cons.mpr ⟨gf_Mo_114, List.forall_mem_cons.mpr ⟨gf_Mo_683, List.forall_mem_nil _⟩⟩⟩, List.forall_mem_nil _, List.forall_mem_cons.mpr ⟨cl_virtual (y := y_Mo_edgeOf) (ci := 13) rfl rfl ⟨_, _, rfl⟩ (by decide +kernel) h_Mo_edgeOf wm_3195 wm_9 wm_3192 wm_3194 wv_15_7 ⟨by decide, by decide, by decide +kernel⟩ (by decide), List.forall_mem_cons.mpr ⟨cl_virtual (y := y_Mo_toOf) (ci := 13) rfl rfl ⟨_, _, rfl⟩ (by decide +kernel) h_Mo_toOf wm_3263 wm_9 wm_3260 wm_3262 wv_16_8 ⟨by decide, by decide, by decide +kernel⟩ (by decide), List.forall_mem_cons.mpr ⟨cl_virtual (y := y_Mo_goRound) (ci := 13) rfl rfl ⟨_, _, rfl⟩ (by decide +kernel) h_Mo_goRound wm_3255 wm_9 wm_3252 wm_3254 wv_16_6 ⟨by decide, by decide, by decide +kernel⟩ (by decide), List.forall_mem_cons.mpr ⟨cl_virtual (y := y_Mo_fromOf) (ci := 13) rfl rfl ⟨_, _, rfl⟩ (by decide +kernel) h_Mo_fromOf wm_3275 wm_9 wm_3272 wm_3274 wv_16_10 ⟨by decide, by decide, by decide +kernel⟩ (by decide), List.forall_mem_cons.mpr ⟨cl_virtual (y := y_Mo_newLine) (ci := 13) rfl rfl ⟨_, _, rfl⟩ (by decide +kernel) h_Mo_newLine wm_3486 wm_9 wm_3483 wm_3485 wv_19_7 ⟨by decide, by decide, by decide +kernel⟩ (by decide), List.forall_mem_cons.mpr ⟨cl_virtual (y := y_Mo_putAhead) (ci := 13) rfl rfl ⟨_, _, rfl⟩ (by decide +kernel) h_Mo_putAhead wm_3498 wm_9 wm_3495 wm_3497 wv_19_10 ⟨by decide, by decide, by decide +kernel⟩ (by decide), List.forall_mem_cons.mpr ⟨cl_virtual (y := y_Mo_putBehind) (ci := 13) rfl rfl ⟨_, _, rfl⟩ (by decide +kernel) h_Mo_putBehind wm_3502 wm_9 wm_3499 wm_3501 wv_19_11 ⟨by decide, by decide, by decide +kernel⟩ (by decide), List.forall_mem_nil _⟩⟩⟩⟩⟩⟩⟩, List.forall_mem_nil _, List.forall_mem_nil _⟩ (by decide +kernel)
def n_Mo_far_an : List an_T := []
def t_Mo_far_ct : ct_L := [(0, 387, e_Mo_in), (0, 521, e_Mo_isPlace), (1, 475, e_Mo_nodes), (1, 527, e_Mo_take), (1, 550, e_Mo_farFrom)]
set_option maxRecDepth 100000 in
theorem c_Mo_far {l : Launch} {D : va_G} {kA : Nat → ClassId} (h_Mo_farFrom : ct_ok l D kA GG y_Mo_farFrom z_Mo_farFrom e_Mo_farFrom) (h_Mo_in : ct_ok l D kA GG y_Mo_in z_Mo_in e_Mo_in) (h_Mo_isPlace : ct_ok l D kA GG y_Mo_isPlace z_Mo_isPlace e_Mo_isPlace) (h_Mo_nodes : ct_ok l D kA GG y_Mo_nodes z_Mo_nodes e_Mo_nodes) (h_Mo_take : ct_ok l D kA GG y_Mo_take z_Mo_take e_Mo_take) : ct_ok l D kA GG y_Mo_far z_Mo_far e_Mo_far := chk_all_ok (FT := [(38, 13, 19)]) (PT := []) (CT := t_Mo_far_ct) (KT := [(1, 546, .int (1000000), (0, 1000000, 1000000, []))]) (NT := []) (AN := n_Mo_far_an) (OT := []) 0 228 (List.forall_mem_nil _) (by decide +kernel) ⟨List.forall_mem_cons.mpr ⟨gf_Mo_38, List.forall_mem_nil _⟩, List.forall_mem_nil _, List.forall_mem_cons.mpr ⟨cl_static (y := y_Mo_in) h_Mo_in wm_2971 wm_9 wm_2969 wm_2970 ⟨by decide, by decide, by decide +kernel⟩ (by decide), List.forall_mem_cons.mpr ⟨cl_static (y := y_Mo_isPlace) h_Mo_isPlace wm_2978 wm_9 wm_2976 wm_2977 ⟨by decide, by decide, by decide +kernel⟩ (by decide), List.forall_mem_cons.mpr ⟨cl_virtual (y := y_Mo_nodes) (ci := 13) rfl rfl ⟨_, _, rfl⟩ (by decide +kernel) h_Mo_nodes wm_3025 wm_9 wm_3022 wm_3024 wv_13_3 ⟨by decide, by decide, by decide +kernel⟩ (by decide), List.forall_mem_cons.mpr ⟨cl_virtual (y := y_Mo_take) (ci := 13) rfl rfl ⟨_, _, rfl⟩ (by decide +kernel) h_Mo_take wm_3091 wm_9 wm_3088 wm_3090 wv_14_2 ⟨by decide, by decide, by decide +kernel⟩ (by decide), List.forall_mem_cons.mpr ⟨cl_virtual (y := y_Mo_farFrom) (ci := 13) rfl rfl ⟨_, _, rfl⟩ (by decide +kernel) h_Mo_farFrom wm_3287 wm_9 wm_3284 wm_3286 wv_16_12 ⟨by decide, by decide, by decide +kernel⟩ (by decide), List.forall_mem_nil _⟩⟩⟩⟩⟩, List.forall_mem_cons.mpr ⟨kx_Mo_1_546, List.forall_mem_nil _⟩, List.forall_mem_nil _⟩ (by decide +kernel)
def n_Mo_group_an : List an_T := []
def t_Mo_group_ct : ct_L := [(0, 387, e_Mo_in), (0, 521, e_Mo_isPlace), (1, 509, e_Mo_groups), (1, 527, e_Mo_take), (1, 745, e_Mo_sizeOfGroup)]
set_option maxRecDepth 100000 in
theorem c_Mo_group {l : Launch} {D : va_G} {kA : Nat → ClassId} (h_Mo_groups : ct_ok l D kA GG y_Mo_groups z_Mo_groups e_Mo_groups) (h_Mo_in : ct_ok l D kA GG y_Mo_in z_Mo_in e_Mo_in) (h_Mo_isPlace : ct_ok l D kA GG y_Mo_isPlace z_Mo_isPlace e_Mo_isPlace) (h_Mo_sizeOfGroup : ct_ok l D kA GG y_Mo_sizeOfGroup z_Mo_sizeOfGroup e_Mo_sizeOfGroup) (h_Mo_take : ct_ok l D kA GG y_Mo_take z_Mo_take e_Mo_take) : ct_ok l D kA GG y_Mo_group z_Mo_group e_Mo_group := chk_all_ok (FT := [(16, 13, 2), (391, 13, 5)]) (PT := []) (CT := t_Mo_group_ct) (KT := []) (NT := []) (AN := n_Mo_group_an) (OT := []) 0 252 (List.forall_mem_nil _) (by decide +kernel) ⟨List.forall_mem_cons.mpr ⟨gf_Mo_16, List.forall_mem_cons.mpr ⟨gf_Mo_391, List.forall_mem_nil _⟩⟩, List.forall_mem_nil _, List.forall_mem_cons.mpr ⟨cl_static (y := y_Mo_in) h_Mo_in wm_2971 wm_9 wm_2969 wm_2970 ⟨by decide, by decide, by decide +kernel⟩ (by decide), List.forall_mem_cons.mpr ⟨cl_static (y := y_Mo_isPlace) h_Mo_isPlace wm_2978 wm_9 wm_2976 wm_2977 ⟨by decide, by decide, by decide +kernel⟩ (by decide), List.forall_mem_cons.mpr ⟨cl_virtual (y := y_Mo_groups) (ci := 13) rfl rfl ⟨_, _, rfl⟩ (by decide +kernel) h_Mo_groups wm_3070 wm_9 wm_3067 wm_3069 wv_13_14 ⟨by decide, by decide, by decide +kernel⟩ (by decide), List.forall_mem_cons.mpr ⟨cl_virtual (y := y_Mo_take) (ci := 13) rfl rfl ⟨_, _, rfl⟩ (by decide +kernel) h_Mo_take wm_3091 wm_9 wm_3088 wm_3090 wv_14_2 ⟨by decide, by decide, by decide +kernel⟩ (by decide), List.forall_mem_cons.mpr ⟨cl_virtual (y := y_Mo_sizeOfGroup) (ci := 13) rfl rfl ⟨_, _, rfl⟩ (by decide +kernel) h_Mo_sizeOfGroup wm_3351 wm_9 wm_3348 wm_3350 wv_17_9 ⟨by decide, by decide, by decide +kernel⟩ (by decide), List.forall_mem_nil _⟩⟩⟩⟩⟩, List.forall_mem_nil _, List.forall_mem_nil _⟩ (by decide +kernel)
def n_Ho_label_an : List an_T := []
def t_Ho_label_ct : ct_L := [(1, 197, e_Gr_hasEdge), (1, 323, e_Ho_hasDrawing), (1, 333, e_Dr_labelOf)]
set_option maxRecDepth 100000 in
theorem c_Ho_label {l : Launch} {D : va_G} {kA : Nat → ClassId} (h_Dr_labelOf : ct_ok l D kA GG y_Dr_labelOf z_Dr_labelOf e_Dr_labelOf) (h_Gr_hasEdge : ct_ok l D kA GG y_Gr_hasEdge z_Gr_hasEdge e_Gr_hasEdge) (h_Ho_hasDrawing : ct_ok l D kA GG y_Ho_hasDrawing z_Ho_hasDrawing e_Ho_hasDrawing) : ct_ok l D kA GG y_Ho_label z_Ho_label e_Ho_label := chk_all_ok (FT := [(13, 12, 0), (31, 12, 3)]) (PT := []) (CT := t_Ho_label_ct) (KT := [(1, 315, .int (Int32.ofInt (-2147483648)), (0, -2147483648, -2147483648, []))]) (NT := []) (AN := n_Ho_label_an) (OT := []) 0 200 (List.forall_mem_nil _) (by decide +kernel) ⟨List.forall_mem_cons.mpr ⟨gf_Ho_13, List.forall_mem_cons.mpr ⟨gf_Ho_31, List.forall_mem_nil _⟩⟩, List.forall_mem_nil _, List.forall_mem_cons.mpr ⟨cl_virtual (y := y_Gr_hasEdge) (ci := 3) rfl rfl ⟨_, _, rfl⟩ (by decide +kernel) h_Gr_hasEdge wm_930 wm_3 wm_927 wm_928 wm_929 ⟨by decide, by decide, by decide +kernel⟩ (by decide), List.forall_mem_cons.mpr ⟨cl_virtual (y := y_Ho_hasDrawing) (ci := 12) rfl rfl ⟨_, _, rfl⟩ (by decide +kernel) h_Ho_hasDrawing wm_1859 wm_1 wm_1856 wm_1858 wv_8_15 ⟨by decide, by decide, by decide +kernel⟩ (by decide), List.forall_mem_cons.mpr ⟨cl_virtual (y := y_Dr_labelOf) (ci := 0) rfl rfl ⟨_, _, rfl⟩ (by decide +kernel) h_Dr_labelOf wm_1978 wm_8 wm_1975 wm_1976 wm_1977 ⟨by decide, by decide, by decide +kernel⟩ (by decide), List.forall_mem_nil _⟩⟩⟩, List.forall_mem_cons.mpr ⟨kx_Ho_1_315, List.forall_mem_nil _⟩, List.forall_mem_nil _⟩ (by decide +kernel)
def o_Gr_alter_at_kx_0 : or_T := (56, 13, [(10, (0, 122, 122, [])), (11, (0, 0, 0, [])), (12, (0, 3660, 3660, []))], [], [], [], [(21, [10, 12], [3782]), (21, [11, 12], [3782])], [], [])
theorem oo_Gr_alter_at_kx_0 {kA : Nat → ClassId} : or_ok kA GG o_Gr_alter_at_kx_0 := by
  intro A ta ws vs hD hth hl hk hds hf
  have hl : vs.length = 13 := hl
  have hk : ∀ q ∈ ([(10, (0, 122, 122, [])), (11, (0, 0, 0, [])), (12, (0, 3660, 3660, []))] : List (Nat × tv_T)), tv_ok ta q.2 (n_v vs q.1) := hk
  obtain ⟨t10, hk⟩ := List.forall_mem_cons.mp hk
  have t10 : tv_ok ta (0, 122, 122, []) (n_v vs 10) := t10
  have k10 : 122 ≤ v_iv (n_v vs 10) ∧ v_iv (n_v vs 10) ≤ 122 := tv_rng t10
  obtain ⟨t11, hk⟩ := List.forall_mem_cons.mp hk
  have t11 : tv_ok ta (0, 0, 0, []) (n_v vs 11) := t11
  have k11 : 0 ≤ v_iv (n_v vs 11) ∧ v_iv (n_v vs 11) ≤ 0 := tv_rng t11
  obtain ⟨t12, hk⟩ := List.forall_mem_cons.mp hk
  have t12 : tv_ok ta (0, 3660, 3660, []) (n_v vs 12) := t12
  have k12 : 3660 ≤ v_iv (n_v vs 12) ∧ v_iv (n_v vs 12) ≤ 3660 := tv_rng t12
  have nf0 : fc_1 (21, [10, 12], [3782]) ws (vs) := by
    refine ⟨fun n hn => ?_, ?_⟩
    · have hn : n ∈ [10, 12] := hn
      rw [hl]
      simp only [List.mem_cons, List.not_mem_nil, or_false] at hn
      show n < 13; omega
    · show v_iv (n_v vs 10) + v_iv (n_v vs 12) ≤ 3782
      omega
  have nf1 : fc_1 (21, [11, 12], [3782]) ws (vs) := by
    refine ⟨fun n hn => ?_, ?_⟩
    · have hn : n ∈ [11, 12] := hn
      rw [hl]
      simp only [List.mem_cons, List.not_mem_nil, or_false] at hn
      show n < 13; omega
    · show v_iv (n_v vs 11) + v_iv (n_v vs 12) ≤ 3782
      omega
  refine ⟨(fun _ h => (by cases h)), [], trivial, ?_, (fun _ h => (by cases h))⟩
  rw [List.append_nil]
  exact List.forall_mem_cons.mpr ⟨⟨by decide, nf0⟩, List.forall_mem_cons.mpr ⟨⟨by decide, nf1⟩, (fun _ h => (by cases h))⟩⟩
def o_Gr_alter_at_kx_1 : or_T := (56, 11, [(8, (0, 122, 122, [])), (9, (0, 0, 0, [])), (10, (0, 3660, 3660, []))], [], [], [], [(21, [8, 10], [3782]), (21, [9, 10], [3782])], [], [])
theorem oo_Gr_alter_at_kx_1 {kA : Nat → ClassId} : or_ok kA GG o_Gr_alter_at_kx_1 := by
  intro A ta ws vs hD hth hl hk hds hf
  have hl : vs.length = 11 := hl
  have hk : ∀ q ∈ ([(8, (0, 122, 122, [])), (9, (0, 0, 0, [])), (10, (0, 3660, 3660, []))] : List (Nat × tv_T)), tv_ok ta q.2 (n_v vs q.1) := hk
  obtain ⟨t8, hk⟩ := List.forall_mem_cons.mp hk
  have t8 : tv_ok ta (0, 122, 122, []) (n_v vs 8) := t8
  have k8 : 122 ≤ v_iv (n_v vs 8) ∧ v_iv (n_v vs 8) ≤ 122 := tv_rng t8
  obtain ⟨t9, hk⟩ := List.forall_mem_cons.mp hk
  have t9 : tv_ok ta (0, 0, 0, []) (n_v vs 9) := t9
  have k9 : 0 ≤ v_iv (n_v vs 9) ∧ v_iv (n_v vs 9) ≤ 0 := tv_rng t9
  obtain ⟨t10, hk⟩ := List.forall_mem_cons.mp hk
  have t10 : tv_ok ta (0, 3660, 3660, []) (n_v vs 10) := t10
  have k10 : 3660 ≤ v_iv (n_v vs 10) ∧ v_iv (n_v vs 10) ≤ 3660 := tv_rng t10
  have nf0 : fc_1 (21, [8, 10], [3782]) ws (vs) := by
    refine ⟨fun n hn => ?_, ?_⟩
    · have hn : n ∈ [8, 10] := hn
      rw [hl]
      simp only [List.mem_cons, List.not_mem_nil, or_false] at hn
      show n < 11; omega
    · show v_iv (n_v vs 8) + v_iv (n_v vs 10) ≤ 3782
      omega
  have nf1 : fc_1 (21, [9, 10], [3782]) ws (vs) := by
    refine ⟨fun n hn => ?_, ?_⟩
    · have hn : n ∈ [9, 10] := hn
      rw [hl]
      simp only [List.mem_cons, List.not_mem_nil, or_false] at hn
      show n < 11; omega
    · show v_iv (n_v vs 9) + v_iv (n_v vs 10) ≤ 3782
      omega
  refine ⟨(fun _ h => (by cases h)), [], trivial, ?_, (fun _ h => (by cases h))⟩
  rw [List.append_nil]
  exact List.forall_mem_cons.mpr ⟨⟨by decide, nf0⟩, List.forall_mem_cons.mpr ⟨⟨by decide, nf1⟩, (fun _ h => (by cases h))⟩⟩
def n_Gr_alter_at_kx_an : List an_T := []
def t_Gr_alter_at_kx_ct : ct_L := [(1, 126, e_Gr_pack), (88, 129, e_Gr_perform_at_kx), (171, 77, e_acp_80)]
set_option maxRecDepth 100000 in
theorem c_Gr_alter_at_kx {l : Launch} {D : va_G} {kA : Nat → ClassId} (h_Gr_pack : ct_ok l D kA GG y_Gr_pack z_Gr_pack e_Gr_pack) (h_Gr_perform_at_kx : ct_ok l D kA GG y_Gr_perform_at_kx z_Gr_perform_at_kx e_Gr_perform_at_kx) : ct_ok l D kA GG y_Gr_alter_at_kx z_Gr_alter_at_kx e_Gr_alter_at_kx := chk_all_ok (FT := [(62, 3, 16), (65, 3, 17)]) (PT := [(62, 3, 16, .array .int), (65, 3, 17, .int), (68, 3, 18, .int)]) (CT := t_Gr_alter_at_kx_ct) (KT := []) (NT := [(11, 61, .int)]) (AN := n_Gr_alter_at_kx_an) (OT := [o_Gr_alter_at_kx_0, o_Gr_alter_at_kx_1]) 0 404 (List.forall_mem_cons.mpr ⟨oo_Gr_alter_at_kx_0, List.forall_mem_cons.mpr ⟨oo_Gr_alter_at_kx_1, List.forall_mem_nil _⟩⟩) (by decide +kernel) ⟨List.forall_mem_cons.mpr ⟨gf_Gr_62, List.forall_mem_cons.mpr ⟨gf_Gr_65, List.forall_mem_nil _⟩⟩, List.forall_mem_cons.mpr ⟨pf_Gr_62, List.forall_mem_cons.mpr ⟨pf_Gr_65, List.forall_mem_cons.mpr ⟨pf_Gr_68, List.forall_mem_nil _⟩⟩⟩, List.forall_mem_cons.mpr ⟨cl_virtual (y := y_Gr_pack) (ci := 3) rfl rfl ⟨_, _, rfl⟩ (by decide +kernel) h_Gr_pack wm_979 wm_3 wm_976 wm_978 wv_2_14 ⟨by decide, by decide, by decide +kernel⟩ (by decide), List.forall_mem_cons.mpr ⟨cl_virtual (y := y_Gr_perform_at_kx) (ci := 3) rfl rfl ⟨_, _, rfl⟩ (by decide +kernel) h_Gr_perform_at_kx wm_987 wm_3 wm_984 wm_986 wv_3_0 ⟨by decide, by decide, by decide +kernel⟩ (by decide), List.forall_mem_cons.mpr ⟨cl_copy rfl rfl (by decide) (by decide) (by decide) wm_748 wm_750 wm_749 wm_15, List.forall_mem_nil _⟩⟩⟩, List.forall_mem_nil _, List.forall_mem_cons.mpr ⟨wm_193, List.forall_mem_nil _⟩⟩ (by decide +kernel)
def n_Mo_bounds_an : List an_T := [(38, [(0, (2, 0, 0, [150])), (1, (0, 0, 24, []))], [], (0, 0), [(0, 0, 99962), (1, 1, 24), (0, 0, 100000), (0, 0, 0), (0, 0, 0)], [], [], [], 0, [], []), (68, [(0, (2, 0, 0, [150])), (1, (0, 0, 48, []))], [], (0, 0), [(0, 0, 99932), (1, 1, 48), (0, 0, 100000), (0, 0, 0), (0, 0, 0)], [], [], [], 0, [], []), (78, [(0, (2, 0, 0, [150])), (1, (0, 0, 47, [])), (2, (0, 0, 26, []))], [], (0, 0), [(0, 0, 99932), (1, 1, 48), (0, 0, 99922), (1, 2, 26), (0, 0, 100000)], [], [], [], 0, [], [])]
def t_Mo_bounds_ct : ct_L := [(1, 401, e_Mo_edges), (1, 475, e_Mo_nodes), (1, 1023, e_Mo_px), (1, 1026, e_Mo_pointsOf), (1, 1029, e_Mo_py), (1, 1085, e_Mo_ex), (1, 1088, e_Mo_ey), (1, 1154, e_Mo_bound)]
set_option maxRecDepth 100000 in
theorem c_Mo_bounds {l : Launch} {D : va_G} {kA : Nat → ClassId} (h_Mo_bound : ct_ok l D kA GG y_Mo_bound z_Mo_bound e_Mo_bound) (h_Mo_edges : ct_ok l D kA GG y_Mo_edges z_Mo_edges e_Mo_edges) (h_Mo_ex : ct_ok l D kA GG y_Mo_ex z_Mo_ex e_Mo_ex) (h_Mo_ey : ct_ok l D kA GG y_Mo_ey z_Mo_ey e_Mo_ey) (h_Mo_nodes : ct_ok l D kA GG y_Mo_nodes z_Mo_nodes e_Mo_nodes) (h_Mo_pointsOf : ct_ok l D kA GG y_Mo_pointsOf z_Mo_pointsOf e_Mo_pointsOf) (h_Mo_px : ct_ok l D kA GG y_Mo_px z_Mo_px e_Mo_px) (h_Mo_py : ct_ok l D kA GG y_Mo_py z_Mo_py e_Mo_py) : ct_ok l D kA GG y_Mo_bounds z_Mo_bounds e_Mo_bounds := chk_all_ok (FT := []) (PT := [(1142, 13, 153, .int), (1145, 13, 154, .int), (1148, 13, 155, .int), (1151, 13, 156, .int)]) (CT := t_Mo_bounds_ct) (KT := []) (NT := []) (AN := n_Mo_bounds_an) (OT := []) 5 284 (List.forall_mem_nil _) (by decide +kernel) ⟨List.forall_mem_nil _, List.forall_mem_cons.mpr ⟨pf_Mo_1142, List.forall_mem_cons.mpr ⟨pf_Mo_1145, List.forall_mem_cons.mpr ⟨pf_Mo_1148, List.forall_mem_cons.mpr ⟨pf_Mo_1151, List.forall_mem_nil _⟩⟩⟩⟩, List.forall_mem_cons.mpr ⟨cl_virtual (y := y_Mo_edges) (ci := 13) rfl rfl ⟨_, _, rfl⟩ (by decide +kernel) h_Mo_edges wm_3037 wm_9 wm_3034 wm_3036 wv_13_6 ⟨by decide, by decide, by decide +kernel⟩ (by decide), List.forall_mem_cons.mpr ⟨cl_virtual (y := y_Mo_nodes) (ci := 13) rfl rfl ⟨_, _, rfl⟩ (by decide +kernel) h_Mo_nodes wm_3025 wm_9 wm_3022 wm_3024 wv_13_3 ⟨by decide, by decide, by decide +kernel⟩ (by decide), List.forall_mem_cons.mpr ⟨cl_virtual (y := y_Mo_px) (ci := 13) rfl rfl ⟨_, _, rfl⟩ (by decide +kernel) h_Mo_px wm_3675 wm_9 wm_3672 wm_3674 wv_21_14 ⟨by decide, by decide, by decide +kernel⟩ (by decide), List.forall_mem_cons.mpr ⟨cl_virtual (y := y_Mo_pointsOf) (ci := 13) rfl rfl ⟨_, _, rfl⟩ (by decide +kernel) h_Mo_pointsOf wm_3726 wm_9 wm_3723 wm_3725 wv_22_8 ⟨by decide, by decide, by decide +kernel⟩ (by decide), List.forall_mem_cons.mpr ⟨cl_virtual (y := y_Mo_py) (ci := 13) rfl rfl ⟨_, _, rfl⟩ (by decide +kernel) h_Mo_py wm_3679 wm_9 wm_3676 wm_3678 wv_21_15 ⟨by decide, by decide, by decide +kernel⟩ (by decide), List.forall_mem_cons.mpr ⟨cl_virtual (y := y_Mo_ex) (ci := 13) rfl rfl ⟨_, _, rfl⟩ (by decide +kernel) h_Mo_ex wm_3730 wm_9 wm_3727 wm_3729 wv_22_9 ⟨by decide, by decide, by decide +kernel⟩ (by decide), List.forall_mem_cons.mpr ⟨cl_virtual (y := y_Mo_ey) (ci := 13) rfl rfl ⟨_, _, rfl⟩ (by decide +kernel) h_Mo_ey wm_3734 wm_9 wm_3731 wm_3733 wv_22_10 ⟨by decide, by decide, by decide +kernel⟩ (by decide), List.forall_mem_cons.mpr ⟨cl_virtual (y := y_Mo_bound) (ci := 13) rfl rfl ⟨_, _, rfl⟩ (by decide +kernel) h_Mo_bound wm_3782 wm_9 wm_3779 wm_3781 wv_23_1 ⟨by decide, by decide, by decide +kernel⟩ (by decide), List.forall_mem_nil _⟩⟩⟩⟩⟩⟩⟩⟩, List.forall_mem_nil _, List.forall_mem_nil _⟩ (by decide +kernel)
def o_Mo_finds_0 : or_T := (168, 9, [(0, (2, 0, 0, [150])), (6, (0, 0, 48, [])), (7, (0, 0, 48, []))], [(9, [7, 0], [150]), (7, [6, 7], [3]), (20, [0], [30, 47, 1, 1, 150])], [(7, (0, 0, 47, []))], [], [], [], [(6, 7, 0, 4294967296)])
theorem oo_Mo_finds_0 {kA : Nat → ClassId} : or_ok kA GG o_Mo_finds_0 := by
  intro A ta ws vs hD hth hl hk hds hf
  have hl : vs.length = 9 := hl
  have hk : ∀ q ∈ ([(0, (2, 0, 0, [150])), (6, (0, 0, 48, [])), (7, (0, 0, 48, []))] : List (Nat × tv_T)), tv_ok ta q.2 (n_v vs q.1) := hk
  obtain ⟨t0, hk⟩ := List.forall_mem_cons.mp hk
  have t0 : tv_ok ta (2, 0, 0, [150]) (n_v vs 0) := t0
  have r0 : ta (v_ad (n_v vs 0)) = some 150 := tv_rg t0
  obtain ⟨t6, hk⟩ := List.forall_mem_cons.mp hk
  have t6 : tv_ok ta (0, 0, 48, []) (n_v vs 6) := t6
  have k6 : 0 ≤ v_iv (n_v vs 6) ∧ v_iv (n_v vs 6) ≤ 48 := tv_rng t6
  obtain ⟨t7, hk⟩ := List.forall_mem_cons.mp hk
  have t7 : tv_ok ta (0, 0, 48, []) (n_v vs 7) := t7
  have k7 : 0 ≤ v_iv (n_v vs 7) ∧ v_iv (n_v vs 7) ≤ 48 := tv_rng t7
  have hds : ∀ q ∈ ([(6, 7, 0, 4294967296)] : List of_T), n_iv vs q.2.1 + q.2.2.1 ≤ n_iv vs q.1 ∧ n_iv vs q.1 ≤ n_iv vs q.2.1 + q.2.2.2 := hds
  obtain ⟨d0, hds⟩ := List.forall_mem_cons.mp hds
  have d0 : v_iv (n_v vs 7) + 0 ≤ v_iv (n_v vs 6) ∧ v_iv (n_v vs 6) ≤ v_iv (n_v vs 7) + 4294967296 := d0
  have hf : fc_ok [(9, [7, 0], [150]), (7, [6, 7], [3]), (20, [0], [30, 47, 1, 1, 150])] ta ws vs := hf
  obtain ⟨f0, hf⟩ := fc_un (by decide) hf
  have f0 : n_v vs 7 = w_fd ws (v_ad (n_v vs 0)) 150 := f0
  obtain ⟨f1, hf⟩ := fc_un (by decide) hf
  have f1 : v_iv (n_v vs 7) ≤ v_iv (n_v vs 6) := f1
  obtain ⟨f2, hf⟩ := fc_un (by decide) hf
  have f2 : 1 * w_fi ws (n_v vs 0) 150 + 0 ≤ 47 := f2
  have g0 : v_iv (n_v vs 7) = w_fi ws (n_v vs 0) 150 := congrArg v_iv f0
  have rf7 : tv_ok ta (0, 0, 47, []) (n_v vs 7) := tv_in t7 (by omega) (by omega)
  refine ⟨List.forall_mem_cons.mpr ⟨rf7, (fun _ h => (by cases h))⟩, [], trivial, ?_, (fun _ h => (by cases h))⟩
  rw [List.append_nil]
  exact (fun _ h => (by cases h))
def n_Mo_finds_an : List an_T := [(2, [(0, (2, 0, 0, [150])), (1, (0, 0, 47, [])), (2, (0, 0, 25, []))], [], (0, 0), [(0, 0, 99998), (1, 2, 25), (0, 0, 100000), (0, 0, 0), (0, 0, 0)], [(1, 2, -1000000000000, 47)], [], [], 0, [], [(20, [0], [30, 47, 1, 1, 150])]), (60, [(0, (2, 0, 0, [150])), (1, (0, 0, 47, [])), (2, (0, 0, 24, [])), (3, (0, -2147483648, 2147483647, [])), (4, (0, -2147483648, 2147483647, [])), (5, (0, 0, 1, [])), (6, (0, 0, 24, []))], [], (0, 0), [(0, 0, 99998), (1, 2, 25), (0, 0, 99940), (1, 6, 24), (0, 0, 100000)], [(1, 2, -1000000000000, 47), (1, 5, -1000000000000, 47), (1, 6, -1000000000000, 47), (5, 1, -1000000000000, 1), (5, 2, -1000000000000, 1), (5, 6, -1000000000000, 1)], [], [], 0, [], [(20, [0], [30, 47, 1, 1, 150])]), (102, [(0, (2, 0, 0, [150])), (1, (0, 0, 47, [])), (2, (0, 0, 24, [])), (3, (0, -2147483648, 2147483647, [])), (4, (0, -2147483648, 2147483647, [])), (5, (0, 0, 1, [])), (6, (0, 0, 48, []))], [], (0, 0), [(0, 0, 99998), (1, 2, 25), (0, 0, 99898), (1, 6, 48), (0, 0, 100000)], [(1, 2, -1000000000000, 47), (1, 5, -1000000000000, 47), (1, 6, -1000000000000, 47), (5, 1, -1000000000000, 1), (5, 2, -1000000000000, 1), (5, 6, -1000000000000, 1)], [], [], 0, [], [(20, [0], [30, 47, 1, 1, 150])])]
def t_Mo_finds_ct : ct_L := [(1, 475, e_Mo_nodes), (1, 1026, e_Mo_pointsOf), (1, 1061, e_Mo_isInBox), (1, 1085, e_Mo_ex), (1, 1088, e_Mo_ey), (90, 931, e_jMath_floorDiv1_v37), (150, 931, e_jMath_floorDiv1_v37)]
set_option maxRecDepth 100000 in
theorem c_Mo_finds {l : Launch} {D : va_G} {kA : Nat → ClassId} (h_Mo_ex : ct_ok l D kA GG y_Mo_ex z_Mo_ex e_Mo_ex) (h_Mo_ey : ct_ok l D kA GG y_Mo_ey z_Mo_ey e_Mo_ey) (h_Mo_isInBox : ct_ok l D kA GG y_Mo_isInBox z_Mo_isInBox e_Mo_isInBox) (h_Mo_nodes : ct_ok l D kA GG y_Mo_nodes z_Mo_nodes e_Mo_nodes) (h_Mo_pointsOf : ct_ok l D kA GG y_Mo_pointsOf z_Mo_pointsOf e_Mo_pointsOf) : ct_ok l D kA GG y_Mo_finds z_Mo_finds e_Mo_finds := chk_all_ok (FT := [(336, 13, 151), (339, 13, 152), (1079, 13, 150)]) (PT := []) (CT := t_Mo_finds_ct) (KT := []) (NT := []) (AN := n_Mo_finds_an) (OT := [o_Mo_finds_0]) 5 688 (List.forall_mem_cons.mpr ⟨oo_Mo_finds_0, List.forall_mem_nil _⟩) (by decide +kernel) ⟨List.forall_mem_cons.mpr ⟨gf_Mo_336, List.forall_mem_cons.mpr ⟨gf_Mo_339, List.forall_mem_cons.mpr ⟨gf_Mo_1079, List.forall_mem_nil _⟩⟩⟩, List.forall_mem_nil _, List.forall_mem_cons.mpr ⟨cl_virtual (y := y_Mo_nodes) (ci := 13) rfl rfl ⟨_, _, rfl⟩ (by decide +kernel) h_Mo_nodes wm_3025 wm_9 wm_3022 wm_3024 wv_13_3 ⟨by decide, by decide, by decide +kernel⟩ (by decide), List.forall_mem_cons.mpr ⟨cl_virtual (y := y_Mo_pointsOf) (ci := 13) rfl rfl ⟨_, _, rfl⟩ (by decide +kernel) h_Mo_pointsOf wm_3726 wm_9 wm_3723 wm_3725 wv_22_8 ⟨by decide, by decide, by decide +kernel⟩ (by decide), List.forall_mem_cons.mpr ⟨cl_virtual (y := y_Mo_isInBox) (ci := 13) rfl rfl ⟨_, _, rfl⟩ (by decide +kernel) h_Mo_isInBox wm_3688 wm_9 wm_3685 wm_3687 wv_22_1 ⟨by decide, by decide, by decide +kernel⟩ (by decide), List.forall_mem_cons.mpr ⟨cl_virtual (y := y_Mo_ex) (ci := 13) rfl rfl ⟨_, _, rfl⟩ (by decide +kernel) h_Mo_ex wm_3730 wm_9 wm_3727 wm_3729 wv_22_9 ⟨by decide, by decide, by decide +kernel⟩ (by decide), List.forall_mem_cons.mpr ⟨cl_virtual (y := y_Mo_ey) (ci := 13) rfl rfl ⟨_, _, rfl⟩ (by decide +kernel) h_Mo_ey wm_3734 wm_9 wm_3731 wm_3733 wv_22_10 ⟨by decide, by decide, by decide +kernel⟩ (by decide), List.forall_mem_cons.mpr ⟨cl_static (y := y_jMath_floorDiv1) c_jMath_floorDiv1_v37 wm_1617 wm_10 wm_3556 wm_1616 ⟨by decide, by decide, by decide +kernel⟩ (by decide), List.forall_mem_cons.mpr ⟨cl_static (y := y_jMath_floorDiv1) c_jMath_floorDiv1_v37 wm_1617 wm_10 wm_3556 wm_1616 ⟨by decide, by decide, by decide +kernel⟩ (by decide), List.forall_mem_nil _⟩⟩⟩⟩⟩⟩⟩, List.forall_mem_nil _, List.forall_mem_nil _⟩ (by decide +kernel)
def n_Mo_forces_an : List an_T := [(21, [(0, (2, 0, 0, [150])), (1, (0, 0, 200, [])), (2, (0, 0, 24, [])), (3, (0, 0, 24, []))], [], (0, 0), [(0, 0, 99979), (1, 3, 24), (0, 0, 100000), (0, 0, 0), (0, 0, 0)], [], [], [], 0, [], []), (68, [(0, (2, 0, 0, [150])), (1, (0, 0, 200, [])), (2, (0, 0, 24, [])), (3, (0, 0, 200, []))], [], (0, 0), [(0, 0, 99932), (1, 3, 200), (0, 0, 100000), (0, 0, 0), (0, 0, 0)], [], [], [], 0, [], []), (76, [(0, (2, 0, 0, [150])), (1, (0, 1, 200, [])), (2, (0, 0, 24, [])), (3, (0, 0, 199, [])), (4, (0, 0, 24, []))], [], (0, 0), [(0, 0, 99932), (1, 3, 200), (0, 0, 99924), (1, 4, 24), (0, 0, 100000)], [], [], [], 0, [], []), (111, [(0, (2, 0, 0, [150])), (1, (0, 1, 200, [])), (2, (0, 0, 24, [])), (3, (0, 0, 199, [])), (4, (1, 0, 256, [])), (6, (0, 0, 24, []))], [], (0, 0), [(0, 0, 99932), (1, 3, 200), (0, 0, 99889), (1, 5, 24), (0, 0, 100000)], [], [], [], 0, [], []), (175, [(0, (2, 0, 0, [150])), (1, (0, 0, 200, [])), (2, (0, 0, 24, [])), (3, (0, 0, 24, []))], [], (0, 0), [(0, 0, 99825), (1, 3, 24), (0, 0, 100000), (0, 0, 0), (0, 0, 0)], [], [], [], 0, [], [])]
def t_Mo_forces_ct : ct_L := [(0, 387, e_Mo_in), (0, 999, e_Mo_bounded), (1, 475, e_Mo_nodes), (1, 996, e_Mo_pull), (585, 1005, e_jMath_floorDiv2_v65), (642, 1005, e_jMath_floorDiv2_v65)]
set_option maxRecDepth 100000 in
theorem c_Mo_forces {l : Launch} {D : va_G} {kA : Nat → ClassId} (h_Mo_bounded : ct_ok l D kA GG y_Mo_bounded z_Mo_bounded e_Mo_bounded) (h_Mo_in : ct_ok l D kA GG y_Mo_in z_Mo_in e_Mo_in) (h_Mo_nodes : ct_ok l D kA GG y_Mo_nodes z_Mo_nodes e_Mo_nodes) (h_Mo_pull : ct_ok l D kA GG y_Mo_pull z_Mo_pull e_Mo_pull) : ct_ok l D kA GG y_Mo_forces z_Mo_forces e_Mo_forces := chk_all_ok (FT := [(159, 13, 74), (162, 13, 75), (305, 13, 135), (308, 13, 136), (311, 13, 137), (314, 13, 138)]) (PT := []) (CT := t_Mo_forces_ct) (KT := [(2, 1003, .long (16), (1, 16, 16, []))]) (NT := []) (AN := n_Mo_forces_an) (OT := []) 5 776 (List.forall_mem_nil _) (by decide +kernel) ⟨List.forall_mem_cons.mpr ⟨gf_Mo_159, List.forall_mem_cons.mpr ⟨gf_Mo_162, List.forall_mem_cons.mpr ⟨gf_Mo_305, List.forall_mem_cons.mpr ⟨gf_Mo_308, List.forall_mem_cons.mpr ⟨gf_Mo_311, List.forall_mem_cons.mpr ⟨gf_Mo_314, List.forall_mem_nil _⟩⟩⟩⟩⟩⟩, List.forall_mem_nil _, List.forall_mem_cons.mpr ⟨cl_static (y := y_Mo_in) h_Mo_in wm_2971 wm_9 wm_2969 wm_2970 ⟨by decide, by decide, by decide +kernel⟩ (by decide), List.forall_mem_cons.mpr ⟨cl_static (y := y_Mo_bounded) h_Mo_bounded wm_3634 wm_9 wm_3632 wm_3633 ⟨by decide, by decide, by decide +kernel⟩ (by decide), List.forall_mem_cons.mpr ⟨cl_virtual (y := y_Mo_nodes) (ci := 13) rfl rfl ⟨_, _, rfl⟩ (by decide +kernel) h_Mo_nodes wm_3025 wm_9 wm_3022 wm_3024 wv_13_3 ⟨by decide, by decide, by decide +kernel⟩ (by decide), List.forall_mem_cons.mpr ⟨cl_virtual (y := y_Mo_pull) (ci := 13) rfl rfl ⟨_, _, rfl⟩ (by decide +kernel) h_Mo_pull wm_3624 wm_9 wm_3621 wm_3623 wv_21_9 ⟨by decide, by decide, by decide +kernel⟩ (by decide), List.forall_mem_cons.mpr ⟨cl_static (y := y_jMath_floorDiv2) c_jMath_floorDiv2_v65 wm_1800 wm_10 wm_3636 wm_1799 ⟨by decide, by decide, by decide +kernel⟩ (by decide), List.forall_mem_cons.mpr ⟨cl_static (y := y_jMath_floorDiv2) c_jMath_floorDiv2_v65 wm_1800 wm_10 wm_3636 wm_1799 ⟨by decide, by decide, by decide +kernel⟩ (by decide), List.forall_mem_nil _⟩⟩⟩⟩⟩⟩, List.forall_mem_cons.mpr ⟨⟨kt_mk2 wm_3635, fun _ => Or.inr (Or.inl ⟨rfl, _, rfl, by decide, by decide⟩)⟩, List.forall_mem_nil _⟩, List.forall_mem_nil _⟩ (by decide +kernel)
def o_La_stretchRows_0 : or_T := (22, 5, [(0, (2, 0, 0, [4])), (4, (0, 0, 25, []))], [(9, [4, 0], [2]), (20, [0], [30, -1, -1, 1, 2])], [(4, (0, 1, 25, []))], [], [], [], [])
theorem oo_La_stretchRows_0 {kA : Nat → ClassId} : or_ok kA GG o_La_stretchRows_0 := by
  intro A ta ws vs hD hth hl hk hds hf
  have hl : vs.length = 5 := hl
  have hk : ∀ q ∈ ([(0, (2, 0, 0, [4])), (4, (0, 0, 25, []))] : List (Nat × tv_T)), tv_ok ta q.2 (n_v vs q.1) := hk
  obtain ⟨t0, hk⟩ := List.forall_mem_cons.mp hk
  have t0 : tv_ok ta (2, 0, 0, [4]) (n_v vs 0) := t0
  have r0 : ta (v_ad (n_v vs 0)) = some 4 := tv_rg t0
  obtain ⟨t4, hk⟩ := List.forall_mem_cons.mp hk
  have t4 : tv_ok ta (0, 0, 25, []) (n_v vs 4) := t4
  have k4 : 0 ≤ v_iv (n_v vs 4) ∧ v_iv (n_v vs 4) ≤ 25 := tv_rng t4
  have hf : fc_ok [(9, [4, 0], [2]), (20, [0], [30, -1, -1, 1, 2])] ta ws vs := hf
  obtain ⟨f0, hf⟩ := fc_un (by decide) hf
  have f0 : n_v vs 4 = w_fd ws (v_ad (n_v vs 0)) 2 := f0
  obtain ⟨f1, hf⟩ := fc_un (by decide) hf
  have f1 : (-1) * w_fi ws (n_v vs 0) 2 + 0 ≤ (-1) := f1
  have g0 : v_iv (n_v vs 4) = w_fi ws (n_v vs 0) 2 := congrArg v_iv f0
  have rf4 : tv_ok ta (0, 1, 25, []) (n_v vs 4) := tv_in t4 (by omega) (by omega)
  refine ⟨List.forall_mem_cons.mpr ⟨rf4, (fun _ h => (by cases h))⟩, [], trivial, ?_, (fun _ h => (by cases h))⟩
  rw [List.append_nil]
  exact (fun _ h => (by cases h))
def n_La_stretchRows_an : List an_T := [(13, [(0, (2, 0, 0, [4])), (1, (0, 0, 120, []))], [], (0, 0), [(0, 0, 99987), (1, 1, 120), (0, 0, 100000), (0, 0, 0), (0, 0, 0)], [], [((0, 1), (2, 0, 0, [3]))], [], 0, [], [(20, [0], [30, -1, -1, 1, 2])]), (120, [(0, (2, 0, 0, [4])), (1, (0, 0, 25, []))], [], (0, 0), [(0, 0, 99880), (1, 1, 25), (0, 0, 100000), (0, 0, 0), (0, 0, 0)], [], [((0, 1), (2, 0, 0, [3]))], [], 0, [], []), (137, [(0, (2, 0, 0, [4])), (1, (0, 0, 24, [])), (2, (0, 1, 73, []))], [], (0, 0), [(0, 0, 99880), (1, 1, 25), (0, 0, 99863), (1, 2, 73), (0, 0, 100000)], [(2, 1, -1000000000000, 73)], [((0, 1), (2, 0, 0, [3]))], [], 0, [], [])]
def t_La_stretchRows_ct : ct_L := [(1, 142, e_St_begin), (1, 159, e_St_addPiece), (1, 163, e_St_addGap), (1, 166, e_St_solve), (1, 245, e_La_halfOf)]
set_option maxRecDepth 100000 in
theorem c_La_stretchRows {l : Launch} {D : va_G} {kA : Nat → ClassId} (h_La_halfOf : ct_ok l D kA GG y_La_halfOf z_La_halfOf e_La_halfOf) (h_St_addGap : ct_ok l D kA GG y_St_addGap z_St_addGap e_St_addGap) (h_St_addPiece : ct_ok l D kA GG y_St_addPiece z_St_addPiece e_St_addPiece) (h_St_begin : ct_ok l D kA GG y_St_begin z_St_begin e_St_begin) (h_St_solve : ct_ok l D kA GG y_St_solve z_St_solve e_St_solve) : ct_ok l D kA GG y_La_stretchRows z_La_stretchRows e_La_stretchRows := chk_all_ok (FT := [(12, 4, 0), (18, 4, 1), (22, 4, 2), (26, 4, 3), (36, 4, 6), (39, 4, 7), (42, 4, 8), (45, 4, 9), (48, 4, 10), (57, 4, 13), (139, 3, 0)]) (PT := []) (CT := t_La_stretchRows_ct) (KT := []) (NT := []) (AN := n_La_stretchRows_an) (OT := [o_La_stretchRows_0]) 5 880 (List.forall_mem_cons.mpr ⟨oo_La_stretchRows_0, List.forall_mem_nil _⟩) (by decide +kernel) ⟨List.forall_mem_cons.mpr ⟨gf_La_12, List.forall_mem_cons.mpr ⟨gf_La_18, List.forall_mem_cons.mpr ⟨gf_La_22, List.forall_mem_cons.mpr ⟨gf_La_26, List.forall_mem_cons.mpr ⟨gf_La_36, List.forall_mem_cons.mpr ⟨gf_La_39, List.forall_mem_cons.mpr ⟨gf_La_42, List.forall_mem_cons.mpr ⟨gf_La_45, List.forall_mem_cons.mpr ⟨gf_La_48, List.forall_mem_cons.mpr ⟨gf_La_57, List.forall_mem_cons.mpr ⟨gf_La_139, List.forall_mem_nil _⟩⟩⟩⟩⟩⟩⟩⟩⟩⟩⟩, List.forall_mem_nil _, List.forall_mem_cons.mpr ⟨cl_virtual (y := y_St_begin) (ci := 10) rfl rfl ⟨_, _, rfl⟩ (by decide +kernel) h_St_begin wm_1317 wm_19 wm_1314 wm_1315 wm_1316 ⟨by decide, by decide, by decide +kernel⟩ (by decide), List.forall_mem_cons.mpr ⟨cl_virtual (y := y_St_addPiece) (ci := 10) rfl rfl ⟨_, _, rfl⟩ (by decide +kernel) h_St_addPiece wm_1329 wm_19 wm_1326 wm_1327 wm_1328 ⟨by decide, by decide, by decide +kernel⟩ (by decide), List.forall_mem_cons.mpr ⟨cl_virtual (y := y_St_addGap) (ci := 10) rfl rfl ⟨_, _, rfl⟩ (by decide +kernel) h_St_addGap wm_1337 wm_19 wm_1334 wm_1335 wm_1336 ⟨by decide, by decide, by decide +kernel⟩ (by decide), List.forall_mem_cons.mpr ⟨cl_virtual (y := y_St_solve) (ci := 10) rfl rfl ⟨_, _, rfl⟩ (by decide +kernel) h_St_solve wm_1342 wm_19 wm_1339 wm_1340 wm_1341 ⟨by decide, by decide, by decide +kernel⟩ (by decide), List.forall_mem_cons.mpr ⟨cl_virtual (y := y_La_halfOf) (ci := 4) rfl rfl ⟨_, _, rfl⟩ (by decide +kernel) h_La_halfOf wm_1448 wm_18 wm_1445 wm_1447 wv_6_2 ⟨by decide, by decide, by decide +kernel⟩ (by decide), List.forall_mem_nil _⟩⟩⟩⟩⟩, List.forall_mem_nil _, List.forall_mem_nil _⟩ (by decide +kernel)
def n_Mo_areaOf_an : List an_T := []
def t_Mo_areaOf_ct : ct_L := [(1, 1157, e_Mo_bounds)]
set_option maxRecDepth 100000 in
theorem c_Mo_areaOf {l : Launch} {D : va_G} {kA : Nat → ClassId} (h_Mo_bounds : ct_ok l D kA GG y_Mo_bounds z_Mo_bounds e_Mo_bounds) : ct_ok l D kA GG y_Mo_areaOf z_Mo_areaOf e_Mo_areaOf := chk_all_ok (FT := [(1142, 13, 153), (1145, 13, 154), (1148, 13, 155), (1151, 13, 156)]) (PT := []) (CT := t_Mo_areaOf_ct) (KT := []) (NT := []) (AN := n_Mo_areaOf_an) (OT := []) 0 200 (List.forall_mem_nil _) (by decide +kernel) ⟨List.forall_mem_cons.mpr ⟨gf_Mo_1142, List.forall_mem_cons.mpr ⟨gf_Mo_1145, List.forall_mem_cons.mpr ⟨gf_Mo_1148, List.forall_mem_cons.mpr ⟨gf_Mo_1151, List.forall_mem_nil _⟩⟩⟩⟩, List.forall_mem_nil _, List.forall_mem_cons.mpr ⟨cl_virtual (y := y_Mo_bounds) (ci := 13) rfl rfl ⟨_, _, rfl⟩ (by decide +kernel) h_Mo_bounds wm_3778 wm_9 wm_3775 wm_3777 wv_23_0 ⟨by decide, by decide, by decide +kernel⟩ (by decide), List.forall_mem_nil _⟩, List.forall_mem_nil _, List.forall_mem_nil _⟩ (by decide +kernel)
def n_Mo_areas_an : List an_T := [(17, [(0, (2, 0, 0, [150])), (1, (0, 0, 3, [])), (2, (0, 8, 512, [])), (3, (0, 0, 32, []))], [], (0, 0), [(0, 0, 99983), (1, 3, 32), (0, 0, 100000)], [], [], [], 0, [], []), (54, [(0, (2, 0, 0, [150])), (1, (0, 0, 3, [])), (2, (0, 8, 512, [])), (3, (0, 0, 8, []))], [], (0, 0), [(0, 0, 99946), (1, 3, 8), (0, 0, 100000)], [], [], [], 0, [], []), (135, [(0, (2, 0, 0, [150])), (1, (0, 0, 3, [])), (2, (0, 8, 512, [])), (3, (0, 0, 24, []))], [], (0, 0), [(0, 0, 99865), (1, 3, 24), (0, 0, 100000)], [], [], [], 0, [], [])]
def t_Mo_areas_ct : ct_L := [(0, 387, e_Mo_in), (1, 475, e_Mo_nodes), (1, 509, e_Mo_groups), (1, 745, e_Mo_sizeOfGroup), (1, 960, e_Mo_setBox), (1, 964, e_Mo_gather), (1, 967, e_Mo_squares)]
set_option maxRecDepth 100000 in
theorem c_Mo_areas {l : Launch} {D : va_G} {kA : Nat → ClassId} (h_Mo_gather : ct_ok l D kA GG y_Mo_gather z_Mo_gather e_Mo_gather) (h_Mo_groups : ct_ok l D kA GG y_Mo_groups z_Mo_groups e_Mo_groups) (h_Mo_in : ct_ok l D kA GG y_Mo_in z_Mo_in e_Mo_in) (h_Mo_nodes : ct_ok l D kA GG y_Mo_nodes z_Mo_nodes e_Mo_nodes) (h_Mo_setBox : ct_ok l D kA GG y_Mo_setBox z_Mo_setBox e_Mo_setBox) (h_Mo_sizeOfGroup : ct_ok l D kA GG y_Mo_sizeOfGroup z_Mo_sizeOfGroup e_Mo_sizeOfGroup) (h_Mo_squares : ct_ok l D kA GG y_Mo_squares z_Mo_squares e_Mo_squares) : ct_ok l D kA GG y_Mo_areas z_Mo_areas e_Mo_areas := chk_all_ok (FT := [(150, 13, 71), (153, 13, 72), (159, 13, 74), (162, 13, 75)]) (PT := []) (CT := t_Mo_areas_ct) (KT := []) (NT := []) (AN := n_Mo_areas_an) (OT := []) 3 564 (List.forall_mem_nil _) (by decide +kernel) ⟨List.forall_mem_cons.mpr ⟨gf_Mo_150, List.forall_mem_cons.mpr ⟨gf_Mo_153, List.forall_mem_cons.mpr ⟨gf_Mo_159, List.forall_mem_cons.mpr ⟨gf_Mo_162, List.forall_mem_nil _⟩⟩⟩⟩, List.forall_mem_nil _, List.forall_mem_cons.mpr ⟨cl_static (y := y_Mo_in) h_Mo_in wm_2971 wm_9 wm_2969 wm_2970 ⟨by decide, by decide, by decide +kernel⟩ (by decide), List.forall_mem_cons.mpr ⟨cl_virtual (y := y_Mo_nodes) (ci := 13) rfl rfl ⟨_, _, rfl⟩ (by decide +kernel) h_Mo_nodes wm_3025 wm_9 wm_3022 wm_3024 wv_13_3 ⟨by decide, by decide, by decide +kernel⟩ (by decide), List.forall_mem_cons.mpr ⟨cl_virtual (y := y_Mo_groups) (ci := 13) rfl rfl ⟨_, _, rfl⟩ (by decide +kernel) h_Mo_groups wm_3070 wm_9 wm_3067 wm_3069 wv_13_14 ⟨by decide, by decide, by decide +kernel⟩ (by decide), List.forall_mem_cons.mpr ⟨cl_virtual (y := y_Mo_sizeOfGroup) (ci := 13) rfl rfl ⟨_, _, rfl⟩ (by decide +kernel) h_Mo_sizeOfGroup wm_3351 wm_9 wm_3348 wm_3350 wv_17_9 ⟨by decide, by decide, by decide +kernel⟩ (by decide), List.forall_mem_cons.mpr ⟨cl_virtual (y := y_Mo_setBox) (ci := 13) rfl rfl ⟨_, _, rfl⟩ (by decide +kernel) h_Mo_setBox wm_3588 wm_9 wm_3585 wm_3587 wv_21_0 ⟨by decide, by decide, by decide +kernel⟩ (by decide), List.forall_mem_cons.mpr ⟨cl_virtual (y := y_Mo_gather) (ci := 13) rfl rfl ⟨_, _, rfl⟩ (by decide +kernel) h_Mo_gather wm_3592 wm_9 wm_3589 wm_3591 wv_21_1 ⟨by decide, by decide, by decide +kernel⟩ (by decide), List.forall_mem_cons.mpr ⟨cl_virtual (y := y_Mo_squares) (ci := 13) rfl rfl ⟨_, _, rfl⟩ (by decide +kernel) h_Mo_squares wm_3600 wm_9 wm_3597 wm_3599 wv_21_3 ⟨by decide, by decide, by decide +kernel⟩ (by decide), List.forall_mem_nil _⟩⟩⟩⟩⟩⟩⟩, List.forall_mem_nil _, List.forall_mem_nil _⟩ (by decide +kernel)
def n_Mo_turnEdges_an : List an_T := [(8, [(0, (2, 0, 0, [150])), (1, (0, 0, 24, [])), (2, (0, 0, 48, []))], [], (0, 0), [(0, 0, 99992), (1, 2, 48), (0, 0, 100000), (0, 0, 0), (0, 0, 0)], [(1, 2, -1000000000000, 24)], [], [], 0, [], []), (31, [(0, (2, 0, 0, [150])), (1, (0, 0, 24, [])), (2, (0, 0, 24, []))], [], (0, 0), [(0, 0, 99969), (1, 2, 24), (0, 0, 100000), (0, 0, 0), (0, 0, 0)], [(1, 2, -1000000000000, 24), (1, 3, -1000000000000, 24), (2, 1, -1000000000000, 0), (3, 1, -1000000000000, 26), (3, 2, -1000000000000, 26)], [((0, 99), (0, 0, 26, []))], [], 0, [], []), (43, [(0, (2, 0, 0, [150])), (1, (0, 1, 24, [])), (2, (0, 0, 23, [])), (3, (0, 0, 24, []))], [], (0, 0), [(0, 0, 99969), (1, 2, 24), (0, 0, 99957), (1, 3, 24), (0, 0, 100000)], [(1, 2, -1000000000000, 24), (1, 3, -1000000000000, 24), (1, 4, -1000000000000, 24), (2, 1, -1000000000000, -1), (4, 3, -1000000000000, 0)], [((0, 99), (0, 0, 24, []))], [], 0, [], []), (123, [(0, (2, 0, 0, [150])), (1, (0, 1, 24, [])), (2, (0, 0, 23, [])), (3, (0, 0, 48, []))], [], (0, 0), [(0, 0, 99969), (1, 2, 24), (0, 0, 99877), (1, 3, 48), (0, 0, 100000)], [(1, 2, -1000000000000, 24), (1, 3, -1000000000000, 24), (2, 1, -1000000000000, -1)], [], [], 0, [], [])]
def t_Mo_turnEdges_ct : ct_L := [(1, 394, e_Mo_tail), (1, 398, e_Mo_head), (1, 401, e_Mo_edges), (1, 475, e_Mo_nodes), (1, 719, e_Mo_strong), (1, 798, e_Mo_bestOrder), (1, 801, e_Mo_greedyOrder), (1, 804, e_Mo_placeIn)]
set_option maxRecDepth 100000 in
theorem c_Mo_turnEdges {l : Launch} {D : va_G} {kA : Nat → ClassId} (h_Mo_bestOrder : ct_ok l D kA GG y_Mo_bestOrder z_Mo_bestOrder e_Mo_bestOrder) (h_Mo_edges : ct_ok l D kA GG y_Mo_edges z_Mo_edges e_Mo_edges) (h_Mo_greedyOrder : ct_ok l D kA GG y_Mo_greedyOrder z_Mo_greedyOrder e_Mo_greedyOrder) (h_Mo_head : ct_ok l D kA GG y_Mo_head z_Mo_head e_Mo_head) (h_Mo_nodes : ct_ok l D kA GG y_Mo_nodes z_Mo_nodes e_Mo_nodes) (h_Mo_placeIn : ct_ok l D kA GG y_Mo_placeIn z_Mo_placeIn e_Mo_placeIn) (h_Mo_strong : ct_ok l D kA GG y_Mo_strong z_Mo_strong e_Mo_strong) (h_Mo_tail : ct_ok l D kA GG y_Mo_tail z_Mo_tail e_Mo_tail) : ct_ok l D kA GG y_Mo_turnEdges z_Mo_turnEdges e_Mo_turnEdges := chk_all_ok (FT := [(35, 13, 18), (210, 13, 95), (219, 13, 98), (795, 13, 99)]) (PT := [(795, 13, 99, .int)]) (CT := t_Mo_turnEdges_ct) (KT := []) (NT := []) (AN := n_Mo_turnEdges_an) (OT := []) 5 496 (List.forall_mem_nil _) (by decide +kernel) ⟨List.forall_mem_cons.mpr ⟨gf_Mo_35, List.forall_mem_cons.mpr ⟨gf_Mo_210, List.forall_mem_cons.mpr ⟨gf_Mo_219, List.forall_mem_cons.mpr ⟨gf_Mo_795, List.forall_mem_nil _⟩⟩⟩⟩, List.forall_mem_cons.mpr ⟨pf_Mo_795, List.forall_mem_nil _⟩, List.forall_mem_cons.mpr ⟨cl_virtual (y := y_Mo_tail) (ci := 13) rfl rfl ⟨_, _, rfl⟩ (by decide +kernel) h_Mo_tail wm_3045 wm_9 wm_3042 wm_3044 wv_13_8 ⟨by decide, by decide, by decide +kernel⟩ (by decide), List.forall_mem_cons.mpr ⟨cl_virtual (y := y_Mo_head) (ci := 13) rfl rfl ⟨_, _, rfl⟩ (by decide +kernel) h_Mo_head wm_3049 wm_9 wm_3046 wm_3048 wv_13_9 ⟨by decide, by decide, by decide +kernel⟩ (by decide), List.forall_mem_cons.mpr ⟨cl_virtual (y := y_Mo_edges) (ci := 13) rfl rfl ⟨_, _, rfl⟩ (by decide +kernel) h_Mo_edges wm_3037 wm_9 wm_3034 wm_3036 wv_13_6 ⟨by decide, by decide, by decide +kernel⟩ (by decide), List.forall_mem_cons.mpr ⟨cl_virtual (y := y_Mo_nodes) (ci := 13) rfl rfl ⟨_, _, rfl⟩ (by decide +kernel) h_Mo_nodes wm_3025 wm_9 wm_3022 wm_3024 wv_13_3 ⟨by decide, by decide, by decide +kernel⟩ (by decide), List.forall_mem_cons.mpr ⟨cl_virtual (y := y_Mo_strong) (ci := 13) rfl rfl ⟨_, _, rfl⟩ (by decide +kernel) h_Mo_strong wm_3291 wm_9 wm_3288 wm_3290 wv_16_13 ⟨by decide, by decide, by decide +kernel⟩ (by decide), List.forall_mem_cons.mpr ⟨cl_virtual (y := y_Mo_bestOrder) (ci := 13) rfl rfl ⟨_, _, rfl⟩ (by decide +kernel) h_Mo_bestOrder wm_3379 wm_9 wm_3376 wm_3378 wv_17_13 ⟨by decide, by decide, by decide +kernel⟩ (by decide), List.forall_mem_cons.mpr ⟨cl_virtual (y := y_Mo_greedyOrder) (ci := 13) rfl rfl ⟨_, _, rfl⟩ (by decide +kernel) h_Mo_greedyOrder wm_3387 wm_9 wm_3384 wm_3386 wv_17_15 ⟨by decide, by decide, by decide +kernel⟩ (by decide), List.forall_mem_cons.mpr ⟨cl_virtual (y := y_Mo_placeIn) (ci := 13) rfl rfl ⟨_, _, rfl⟩ (by decide +kernel) h_Mo_placeIn wm_3391 wm_9 wm_3388 wm_3390 wv_18_0 ⟨by decide, by decide, by decide +kernel⟩ (by decide), List.forall_mem_nil _⟩⟩⟩⟩⟩⟩⟩⟩, List.forall_mem_nil _, List.forall_mem_nil _⟩ (by decide +kernel)
def n_Fa_learnTurned_an : List an_T := [(10, [(0, (2, 0, 0, [2])), (1, (2, 0, 0, [3])), (2, (0, 0, 48, []))], [], (0, 0), [(0, 0, 99990), (1, 2, 48), (0, 0, 100000)], [], [], [], 0, [], []), (61, [(0, (2, 0, 0, [2])), (1, (2, 0, 0, [3])), (2, (0, 0, 24, [])), (3, (0, 0, 24, []))], [], (0, 0), [(0, 0, 99939), (1, 3, 24), (0, 0, 100000)], [], [], [], 0, [], []), (115, [(0, (2, 0, 0, [2])), (1, (2, 0, 0, [3])), (2, (0, 0, 24, [])), (3, (0, 0, 48, []))], [], (0, 0), [(0, 0, 99885), (1, 3, 48), (0, 0, 100000)], [], [], [], 0, [], [])]
def t_Fa_learnTurned_ct : ct_L := [(1, 148, e_Fa_numberStrong), (1, 156, e_Fa_gather), (1, 159, e_Fa_orderLarge), (1, 163, e_Fa_orderSmall), (18, 139, e_jArr_fill1_v23)]
set_option maxRecDepth 100000 in
theorem c_Fa_learnTurned {l : Launch} {D : va_G} {kA : Nat → ClassId} (h_Fa_gather : ct_ok l D kA GG y_Fa_gather z_Fa_gather e_Fa_gather) (h_Fa_numberStrong : ct_ok l D kA GG y_Fa_numberStrong z_Fa_numberStrong e_Fa_numberStrong) (h_Fa_orderLarge : ct_ok l D kA GG y_Fa_orderLarge z_Fa_orderLarge e_Fa_orderLarge) (h_Fa_orderSmall : ct_ok l D kA GG y_Fa_orderSmall z_Fa_orderSmall e_Fa_orderSmall) : ct_ok l D kA GG y_Fa_learnTurned z_Fa_learnTurned e_Fa_learnTurned := chk_all_ok (FT := [(41, 2, 9), (45, 2, 10), (48, 2, 11), (51, 2, 12), (64, 3, 0), (69, 3, 1), (72, 3, 7), (75, 3, 8)]) (PT := []) (CT := t_Fa_learnTurned_ct) (KT := []) (NT := []) (AN := n_Fa_learnTurned_an) (OT := []) 3 472 (List.forall_mem_nil _) (by decide +kernel) ⟨List.forall_mem_cons.mpr ⟨gf_Fa_41, List.forall_mem_cons.mpr ⟨gf_Fa_45, List.forall_mem_cons.mpr ⟨gf_Fa_48, List.forall_mem_cons.mpr ⟨gf_Fa_51, List.forall_mem_cons.mpr ⟨gf_Fa_64, List.forall_mem_cons.mpr ⟨gf_Fa_69, List.forall_mem_cons.mpr ⟨gf_Fa_72, List.forall_mem_cons.mpr ⟨gf_Fa_75, List.forall_mem_nil _⟩⟩⟩⟩⟩⟩⟩⟩, List.forall_mem_nil _, List.forall_mem_cons.mpr ⟨cl_virtual (y := y_Fa_numberStrong) (ci := 2) rfl rfl ⟨_, _, rfl⟩ (by decide +kernel) h_Fa_numberStrong wm_859 wm_7 wm_856 wm_858 wv_2_2 ⟨by decide, by decide, by decide +kernel⟩ (by decide), List.forall_mem_cons.mpr ⟨cl_virtual (y := y_Fa_gather) (ci := 2) rfl rfl ⟨_, _, rfl⟩ (by decide +kernel) h_Fa_gather wm_881 wm_7 wm_878 wm_880 wv_2_6 ⟨by decide, by decide, by decide +kernel⟩ (by decide), List.forall_mem_cons.mpr ⟨cl_virtual (y := y_Fa_orderLarge) (ci := 2) rfl rfl ⟨_, _, rfl⟩ (by decide +kernel) h_Fa_orderLarge wm_885 wm_7 wm_882 wm_884 wv_2_7 ⟨by decide, by decide, by decide +kernel⟩ (by decide), List.forall_mem_cons.mpr ⟨cl_virtual (y := y_Fa_orderSmall) (ci := 2) rfl rfl ⟨_, _, rfl⟩ (by decide +kernel) h_Fa_orderSmall wm_904 wm_7 wm_901 wm_903 wv_2_10 ⟨by decide, by decide, by decide +kernel⟩ (by decide), List.forall_mem_cons.mpr ⟨cl_static (y := y_jArr_fill1) c_jArr_fill1_v23 wm_55 wm_4 wm_855 wm_54 ⟨by decide, by decide, by decide +kernel⟩ (by decide), List.forall_mem_nil _⟩⟩⟩⟩⟩, List.forall_mem_nil _, List.forall_mem_nil _⟩ (by decide +kernel)
def o_Pl_layAreas_0 : or_T := (69, 15, [(2, (0, 0, 7, [])), (5, (0, 1, 8, [])), (8, (0, 4, 4, [])), (9, (0, 24, 24, [])), (10, (0, 24, 31, [])), (11, (0, 96, 124, [])), (13, (0, 0, 0, [])), (14, (0, 4, 4, []))], [(3, [11, 8, 10], []), (1, [10, 9, 2], []), (102, [6], [118842243771396506390315925504, 6011]), (7, [2, 5], [2])], [], [], [(21, [11, 14], [128]), (21, [13, 14], [4])], [], [(10, 2, 24, 24), (10, 5, -4294967296, 23), (2, 5, -4294967296, -1)])
theorem oo_Pl_layAreas_0 {kA : Nat → ClassId} : or_ok kA GG o_Pl_layAreas_0 := by
  intro A ta ws vs hD hth hl hk hds hf
  have hl : vs.length = 15 := hl
  have hk : ∀ q ∈ ([(2, (0, 0, 7, [])), (5, (0, 1, 8, [])), (8, (0, 4, 4, [])), (9, (0, 24, 24, [])), (10, (0, 24, 31, [])), (11, (0, 96, 124, [])), (13, (0, 0, 0, [])), (14, (0, 4, 4, []))] : List (Nat × tv_T)), tv_ok ta q.2 (n_v vs q.1) := hk
  obtain ⟨t2, hk⟩ := List.forall_mem_cons.mp hk
  have t2 : tv_ok ta (0, 0, 7, []) (n_v vs 2) := t2
  have k2 : 0 ≤ v_iv (n_v vs 2) ∧ v_iv (n_v vs 2) ≤ 7 := tv_rng t2
  obtain ⟨t5, hk⟩ := List.forall_mem_cons.mp hk
  have t5 : tv_ok ta (0, 1, 8, []) (n_v vs 5) := t5
  have k5 : 1 ≤ v_iv (n_v vs 5) ∧ v_iv (n_v vs 5) ≤ 8 := tv_rng t5
  obtain ⟨t8, hk⟩ := List.forall_mem_cons.mp hk
  have t8 : tv_ok ta (0, 4, 4, []) (n_v vs 8) := t8
  have k8 : 4 ≤ v_iv (n_v vs 8) ∧ v_iv (n_v vs 8) ≤ 4 := tv_rng t8
  obtain ⟨t9, hk⟩ := List.forall_mem_cons.mp hk
  have t9 : tv_ok ta (0, 24, 24, []) (n_v vs 9) := t9
  have k9 : 24 ≤ v_iv (n_v vs 9) ∧ v_iv (n_v vs 9) ≤ 24 := tv_rng t9
  obtain ⟨t10, hk⟩ := List.forall_mem_cons.mp hk
  have t10 : tv_ok ta (0, 24, 31, []) (n_v vs 10) := t10
  have k10 : 24 ≤ v_iv (n_v vs 10) ∧ v_iv (n_v vs 10) ≤ 31 := tv_rng t10
  obtain ⟨t11, hk⟩ := List.forall_mem_cons.mp hk
  have t11 : tv_ok ta (0, 96, 124, []) (n_v vs 11) := t11
  have k11 : 96 ≤ v_iv (n_v vs 11) ∧ v_iv (n_v vs 11) ≤ 124 := tv_rng t11
  obtain ⟨t13, hk⟩ := List.forall_mem_cons.mp hk
  have t13 : tv_ok ta (0, 0, 0, []) (n_v vs 13) := t13
  have k13 : 0 ≤ v_iv (n_v vs 13) ∧ v_iv (n_v vs 13) ≤ 0 := tv_rng t13
  obtain ⟨t14, hk⟩ := List.forall_mem_cons.mp hk
  have t14 : tv_ok ta (0, 4, 4, []) (n_v vs 14) := t14
  have k14 : 4 ≤ v_iv (n_v vs 14) ∧ v_iv (n_v vs 14) ≤ 4 := tv_rng t14
  have hds : ∀ q ∈ ([(10, 2, 24, 24), (10, 5, -4294967296, 23), (2, 5, -4294967296, -1)] : List of_T), n_iv vs q.2.1 + q.2.2.1 ≤ n_iv vs q.1 ∧ n_iv vs q.1 ≤ n_iv vs q.2.1 + q.2.2.2 := hds
  obtain ⟨d0, hds⟩ := List.forall_mem_cons.mp hds
  have d0 : v_iv (n_v vs 2) + 24 ≤ v_iv (n_v vs 10) ∧ v_iv (n_v vs 10) ≤ v_iv (n_v vs 2) + 24 := d0
  obtain ⟨d1, hds⟩ := List.forall_mem_cons.mp hds
  have d1 : v_iv (n_v vs 5) + (-4294967296) ≤ v_iv (n_v vs 10) ∧ v_iv (n_v vs 10) ≤ v_iv (n_v vs 5) + 23 := d1
  obtain ⟨d2, hds⟩ := List.forall_mem_cons.mp hds
  have d2 : v_iv (n_v vs 5) + (-4294967296) ≤ v_iv (n_v vs 2) ∧ v_iv (n_v vs 2) ≤ v_iv (n_v vs 5) + (-1) := d2
  have hf : fc_ok [(3, [11, 8, 10], []), (1, [10, 9, 2], []), (102, [6], [118842243771396506390315925504, 6011]), (7, [2, 5], [2])] ta ws vs := hf
  obtain ⟨f0, hf⟩ := fc_un (by decide) hf
  have f0 : v_iv (n_v vs 11) = v_iv (n_v vs 8) * v_iv (n_v vs 10) := f0
  rw [show v_iv (n_v vs 8) = 4 from by omega] at f0
  obtain ⟨f1, hf⟩ := fc_un (by decide) hf
  have f1 : v_iv (n_v vs 10) = v_iv (n_v vs 9) + v_iv (n_v vs 2) := f1
  obtain ⟨ta1, w1, le1, ⟨_, s1⟩, hf⟩ := fc_us (by decide) hf
  obtain ⟨f3, hf⟩ := fc_un (by decide) hf
  have f3 : v_iv (n_v vs 2) < v_iv (n_v vs 5) := f3
  have nf0 : fc_1 (21, [11, 14], [128]) ws (vs) := by
    refine ⟨fun n hn => ?_, ?_⟩
    · have hn : n ∈ [11, 14] := hn
      rw [hl]
      simp only [List.mem_cons, List.not_mem_nil, or_false] at hn
      show n < 15; omega
    · show v_iv (n_v vs 11) + v_iv (n_v vs 14) ≤ 128
      omega
  have nf1 : fc_1 (21, [13, 14], [4]) ws (vs) := by
    refine ⟨fun n hn => ?_, ?_⟩
    · have hn : n ∈ [13, 14] := hn
      rw [hl]
      simp only [List.mem_cons, List.not_mem_nil, or_false] at hn
      show n < 15; omega
    · show v_iv (n_v vs 13) + v_iv (n_v vs 14) ≤ 4
      omega
  refine ⟨(fun _ h => (by cases h)), [], trivial, ?_, (fun _ h => (by cases h))⟩
  rw [List.append_nil]
  exact List.forall_mem_cons.mpr ⟨⟨by decide, nf0⟩, List.forall_mem_cons.mpr ⟨⟨by decide, nf1⟩, (fun _ h => (by cases h))⟩⟩
def n_Pl_layAreas_an : List an_T := [(23, [(0, (2, 0, 0, [6])), (1, (0, -2147483648, 2147483647, [])), (2, (0, 0, 8, []))], [], (0, 0), [(0, 0, 99977), (1, 2, 8), (0, 0, 100000)], [], [((0, 1), (2, 0, 0, [0])), ((0, 0), (2, 0, 0, [3]))], [], 0, [], []), (84, [(0, (2, 0, 0, [6])), (1, (0, -2147483648, 2147483647, [])), (2, (0, 0, 24, []))], [], (0, 0), [(0, 0, 99916), (1, 2, 24), (0, 0, 100000)], [], [((0, 1), (2, 0, 0, [0])), ((0, 0), (2, 0, 0, [3]))], [], 0, [], [])]
def t_Pl_layAreas_ct : ct_L := [(1, 162, e_Pl_setArea), (1, 169, e_Gr_sizeOfGroup), (1, 172, e_Pl_gatherItems), (1, 181, e_Pl_layRows), (27, 156, e_jArr_fill1_v137), (210, 175, e_acp_81), (210, 175, e_acp_82), (210, 175, e_acp_83), (210, 175, e_acp_84), (210, 175, e_acp_85), (210, 175, e_acp_86)]
set_option maxRecDepth 100000 in
theorem c_Pl_layAreas {l : Launch} {D : va_G} {kA : Nat → ClassId} (h_Gr_sizeOfGroup : ct_ok l D kA GG y_Gr_sizeOfGroup z_Gr_sizeOfGroup e_Gr_sizeOfGroup) (h_Pl_gatherItems : ct_ok l D kA GG y_Pl_gatherItems z_Pl_gatherItems e_Pl_gatherItems) (h_Pl_layRows : ct_ok l D kA GG y_Pl_layRows z_Pl_layRows e_Pl_layRows) (h_Pl_setArea : ct_ok l D kA GG y_Pl_setArea z_Pl_setArea e_Pl_setArea) : ct_ok l D kA GG y_Pl_layAreas z_Pl_layAreas e_Pl_layAreas := chk_all_ok (FT := [(9, 6, 0), (15, 6, 1), (51, 6, 12), (74, 3, 0), (127, 0, 2), (135, 0, 3), (153, 0, 13), (166, 3, 2)]) (PT := []) (CT := t_Pl_layAreas_ct) (KT := []) (NT := []) (AN := n_Pl_layAreas_an) (OT := [o_Pl_layAreas_0]) 3 424 (List.forall_mem_cons.mpr ⟨oo_Pl_layAreas_0, List.forall_mem_nil _⟩) (by decide +kernel) ⟨List.forall_mem_cons.mpr ⟨gf_Pl_9, List.forall_mem_cons.mpr ⟨gf_Pl_15, List.forall_mem_cons.mpr ⟨gf_Pl_51, List.forall_mem_cons.mpr ⟨gf_Pl_74, List.forall_mem_cons.mpr ⟨gf_Pl_127, List.forall_mem_cons.mpr ⟨gf_Pl_135, List.forall_mem_cons.mpr ⟨gf_Pl_153, List.forall_mem_cons.mpr ⟨gf_Pl_166, List.forall_mem_nil _⟩⟩⟩⟩⟩⟩⟩⟩, List.forall_mem_nil _, List.forall_mem_cons.mpr ⟨cl_virtual (y := y_Pl_setArea) (ci := 6) rfl rfl ⟨_, _, rfl⟩ (by decide +kernel) h_Pl_setArea wm_1725 wm_21 wm_1722 wm_1724 wv_7_13 ⟨by decide, by decide, by decide +kernel⟩ (by decide), List.forall_mem_cons.mpr ⟨cl_virtual (y := y_Gr_sizeOfGroup) (ci := 3) rfl rfl ⟨_, _, rfl⟩ (by decide +kernel) h_Gr_sizeOfGroup wm_946 wm_3 wm_1726 wm_944 wm_945 ⟨by decide, by decide, by decide +kernel⟩ (by decide), List.forall_mem_cons.mpr ⟨cl_virtual (y := y_Pl_gatherItems) (ci := 6) rfl rfl ⟨_, _, rfl⟩ (by decide +kernel) h_Pl_gatherItems wm_1730 wm_21 wm_1727 wm_1729 wv_7_14 ⟨by decide, by decide, by decide +kernel⟩ (by decide), List.forall_mem_cons.mpr ⟨cl_virtual (y := y_Pl_layRows) (ci := 6) rfl rfl ⟨_, _, rfl⟩ (by decide +kernel) h_Pl_layRows wm_1739 wm_21 wm_1736 wm_1738 wv_8_0 ⟨by decide, by decide, by decide +kernel⟩ (by decide), List.forall_mem_cons.mpr ⟨cl_static (y := y_jArr_fill1) c_jArr_fill1_v137 wm_55 wm_4 wm_1721 wm_54 ⟨by decide, by decide, by decide +kernel⟩ (by decide), List.forall_mem_cons.mpr ⟨cl_copy rfl rfl (by decide) (by decide) (by decide) wm_1735 wm_750 wm_749 wm_15, List.forall_mem_cons.mpr ⟨cl_copy rfl rfl (by decide) (by decide) (by decide) wm_1735 wm_750 wm_749 wm_15, List.forall_mem_cons.mpr ⟨cl_copy rfl rfl (by decide) (by decide) (by decide) wm_1735 wm_750 wm_749 wm_15, List.forall_mem_cons.mpr ⟨cl_copy rfl rfl (by decide) (by decide) (by decide) wm_1735 wm_750 wm_749 wm_15, List.forall_mem_cons.mpr ⟨cl_copy rfl rfl (by decide) (by decide) (by decide) wm_1735 wm_750 wm_749 wm_15, List.forall_mem_cons.mpr ⟨cl_copy rfl rfl (by decide) (by decide) (by decide) wm_1735 wm_750 wm_749 wm_15, List.forall_mem_nil _⟩⟩⟩⟩⟩⟩⟩⟩⟩⟩⟩, List.forall_mem_nil _, List.forall_mem_nil _⟩ (by decide +kernel)
