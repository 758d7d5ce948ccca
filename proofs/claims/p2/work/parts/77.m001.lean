set_option maxRecDepth 100000 in
theorem c_Pl_sumPulls {l : Launch} {D : va_G} {kA : Nat → ClassId} (h_Gr_edgeBetween_at_Gr : ct_ok PRD l D kA GG y_Gr_edgeBetween_at_Gr z_Gr_edgeBetween_at_Gr e_Gr_edgeBetween_at_Gr) (h_Pl_root : ct_ok PRD l D kA GG y_Pl_root z_Pl_root e_Pl_root) : ct_ok PRD l D kA GG y_Pl_sumPulls z_Pl_sumPulls e_Pl_sumPulls := chk_all_ok (FT := [(9, 6, 0), (61, 6, 15), (65, 6, 16), (68, 6, 17), (71, 6, 18), (74, 3, 0), (256, 3, 9)]) (PT := []) (CT := t_Pl_sumPulls_ct) (KT := [(2, 245, .long (65536), (1, 65536, 65536, [])), (2, 254, .long (1024), (1, 1024, 1024, []))]) (NT := []) (AN := n_Pl_sumPulls_an) (OT := [o_Pl_sumPulls_0, o_Pl_sumPulls_1]) 5 1764 (List.forall_mem_cons.mpr ⟨oo_Pl_sumPulls_0, List.forall_mem_cons.mpr ⟨oo_Pl_sumPulls_1, List.forall_mem_nil _⟩⟩) (by decide +kernel) ⟨List.forall_mem_cons.mpr ⟨gf_Pl_9, List.forall_mem_cons.mpr ⟨gf_Pl_61, List.forall_mem_cons.mpr ⟨gf_Pl_65, List.forall_mem_cons.mpr ⟨gf_Pl_68, List.forall_mem_cons.mpr ⟨gf_Pl_71, List.forall_mem_cons.mpr ⟨gf_Pl_74, List.forall_mem_cons.mpr ⟨gf_Pl_256, List.forall_mem_nil _⟩⟩⟩⟩⟩⟩⟩, List.forall_mem_nil _, List.forall_mem_cons.mpr ⟨cl_static (y := y_Pl_root) h_Pl_root wm_1795 wm_21 wm_1793 wm_1794 ⟨by decide, by decide, by decide +kernel⟩ (by decide), List.forall_mem_cons.mpr ⟨cl_static (y := y_jArr_fill2) c_jArr_fill2_v97 wm_1790 wm_4 wm_1788 wm_1789 ⟨by decide, by decide, by decide +kernel⟩ (by decide), List.forall_mem_cons.mpr ⟨cl_static (y := y_jArr_fill2) c_jArr_fill2_v98 wm_1790 wm_4 wm_1788 wm_1789 ⟨by decide, by decide, by decide +kernel⟩ (by decide), List.forall_mem_cons.mpr ⟨cl_virtual (y := y_Gr_edgeBetween_at_Gr) (ci := 3) rfl rfl ⟨_, _, rfl⟩ (by decide +kernel) h_Gr_edgeBetween_at_Gr wm_768 wm_3 wm_1792 wm_766 wm_767 ⟨by decide, by decide, by decide +kernel⟩ (by decide), List.forall_mem_nil _⟩⟩⟩⟩, List.forall_mem_cons.mpr ⟨⟨kt_mk2 wm_1791, fun _ => Or.inr (Or.inl ⟨rfl, _, rfl, by decide, by decide⟩)⟩, List.forall_mem_cons.mpr ⟨⟨kt_mk2 wm_1796, fun _ => Or.inr (Or.inl ⟨rfl, _, rfl, by decide, by decide⟩)⟩, List.forall_mem_nil _⟩⟩, List.forall_mem_nil _, GG_pl⟩ (by decide +kernel)
def n_Pn_middleOfEdges_an : List an_T := [(10, [(0, (2, 0, 0, [7])), (1, (2, 0, 0, [3])), (2, (0, 0, 23, [])), (3, (0, (Int.negSucc 0), 1000000, [])), (4, (0, (Int.negSucc 999999), 8000, [])), (5, (0, 0, 48, []))], [], (0, 0), [(0, 0, 99990), (1, 5, 48), (0, 0, 100000)], [], [], [], 0, [], [])]
def t_Pn_middleOfEdges_ct : ct_L := [(150, 242, e_jMath_min1_v102), (150, 242, e_jMath_min1_v105), (189, 92, e_jMath_max1_v103), (189, 92, e_jMath_max1_v106), (237, 245, e_jMath_floorDiv1_v101), (237, 245, e_jMath_floorDiv1_v104)]
set_option maxRecDepth 100000 in
theorem c_Pn_middleOfEdges {l : Launch} {D : va_G} {kA : Nat → ClassId} : ct_ok PRD l D kA GG y_Pn_middleOfEdges z_Pn_middleOfEdges e_Pn_middleOfEdges := chk_all_ok (FT := [(41, 7, 8), (203, 3, 1), (214, 3, 7), (218, 3, 8)]) (PT := []) (CT := t_Pn_middleOfEdges_ct) (KT := [(0, 240, .int (1000000), (0, 1000000, 1000000, [])), (0, 241, .int (Int32.ofInt (-1000000)), (0, -1000000, -1000000, []))]) (NT := []) (AN := n_Pn_middleOfEdges_an) (OT := []) 3 248 (List.forall_mem_nil _) (by decide +kernel) ⟨List.forall_mem_cons.mpr ⟨gf_Pn_41, List.forall_mem_cons.mpr ⟨gf_Pn_203, List.forall_mem_cons.mpr ⟨gf_Pn_214, List.forall_mem_cons.mpr ⟨gf_Pn_218, List.forall_mem_nil _⟩⟩⟩⟩, List.forall_mem_nil _, List.forall_mem_cons.mpr ⟨cl_static (y := y_jMath_min1) c_jMath_min1_v102 wm_658 wm_10 wm_1614 wm_657 ⟨by decide, by decide, by decide +kernel⟩ (by decide), List.forall_mem_cons.mpr ⟨cl_static (y := y_jMath_min1) c_jMath_min1_v105 wm_658 wm_10 wm_1614 wm_657 ⟨by decide, by decide, by decide +kernel⟩ (by decide), List.forall_mem_cons.mpr ⟨cl_static (y := y_jMath_max1) c_jMath_max1_v103 wm_836 wm_10 wm_1574 wm_835 ⟨by decide, by decide, by decide +kernel⟩ (by decide), List.forall_mem_cons.mpr ⟨cl_static (y := y_jMath_max1) c_jMath_max1_v106 wm_836 wm_10 wm_1574 wm_835 ⟨by decide, by decide, by decide +kernel⟩ (by decide), List.forall_mem_cons.mpr ⟨cl_static (y := y_jMath_floorDiv1) c_jMath_floorDiv1_v101 wm_1617 wm_10 wm_1615 wm_1616 ⟨by decide, by decide, by decide +kernel⟩ (by decide), List.forall_mem_cons.mpr ⟨cl_static (y := y_jMath_floorDiv1) c_jMath_floorDiv1_v104 wm_1617 wm_10 wm_1615 wm_1616 ⟨by decide, by decide, by decide +kernel⟩ (by decide), List.forall_mem_nil _⟩⟩⟩⟩⟩⟩, List.forall_mem_cons.mpr ⟨kx_Pn_0_240, List.forall_mem_cons.mpr ⟨kx_Pn_0_241, List.forall_mem_nil _⟩⟩, List.forall_mem_nil _, GG_pl⟩ (by decide +kernel)
def n_Sy_lookAtNode_an : List an_T := [(9, [(0, (2, 0, 0, [11])), (1, (2, 0, 0, [3])), (2, (2, 0, 0, [2])), (3, (2, 0, 0, [0])), (4, (0, 0, 23, [])), (5, (0, (Int.negSucc 2147483647), 2147483647, [])), (6, (0, (Int.negSucc 2147483647), 2147483647, [])), (7, (0, 0, 48, []))], [], (0, 0), [(0, 0, 99991), (1, 7, 48), (0, 0, 100000)], [], [], [], 0, [], []), (37, [(0, (2, 0, 0, [11])), (1, (2, 0, 0, [3])), (2, (2, 0, 0, [2])), (3, (2, 0, 0, [0])), (4, (0, 0, 23, [])), (5, (0, (Int.negSucc 2147483647), 2147483647, [])), (6, (0, (Int.negSucc 2147483647), 2147483647, [])), (7, (0, 0, 47, []))], [(0, 0, 1, []), (0, (Int.negSucc 2147483647), 2147483647, [])], (0, 0), [(0, 0, 99991), (1, 7, 48), (0, 0, 99963)], [], [((1, 1), (0, 1, 48, []))], [], 0, [], []), (59, [(0, (2, 0, 0, [11])), (1, (2, 0, 0, [3])), (2, (2, 0, 0, [2])), (3, (2, 0, 0, [0])), (4, (0, 0, 23, [])), (5, (0, (Int.negSucc 2147483647), 2147483647, [])), (6, (0, (Int.negSucc 2147483647), 2147483647, [])), (7, (0, 0, 47, []))], [(0, 0, 1, []), (0, (Int.negSucc 2147483647), 2147483647, [])], (0, 0), [(0, 0, 99991), (1, 7, 48), (0, 0, 99941)], [], [((1, 1), (0, 1, 48, []))], [], 0, [], []), (81, [(0, (2, 0, 0, [11])), (1, (2, 0, 0, [3])), (2, (2, 0, 0, [2])), (3, (2, 0, 0, [0])), (4, (0, 0, 23, [])), (5, (0, (Int.negSucc 2147483647), 2147483647, [])), (6, (0, (Int.negSucc 2147483647), 2147483647, [])), (7, (0, 0, 48, []))], [(0, 0, 1, [])], (0, 0), [(0, 0, 99919), (0, 0, 0), (0, 0, 0)], [], [((3, 1), (0, (Int.negSucc 0), 7, [])), ((1, 1), (0, 0, 48, []))], [], 0, [], []), (197, [(0, (2, 0, 0, [11])), (1, (2, 0, 0, [3])), (2, (2, 0, 0, [2])), (3, (2, 0, 0, [0])), (4, (0, 0, 23, [])), (5, (0, (Int.negSucc 2147483647), 2147483647, [])), (6, (0, (Int.negSucc 2147483647), 2147483647, [])), (7, (0, 0, 1, []))], [(1, 0, 1, []), (0, 7, 7, []), (2, 0, 0, [130])], (0, 0), [(0, 0, 99803), (0, 0, 0), (0, 0, 0)], [], [((3, 1), (0, (Int.negSucc 0), 7, [])), ((1, 1), (0, 0, 48, []))], [], 0, [], []), (221, [(0, (2, 0, 0, [11])), (1, (2, 0, 0, [3])), (2, (2, 0, 0, [2])), (3, (2, 0, 0, [0])), (4, (0, 0, 23, [])), (5, (0, (Int.negSucc 2147483647), 2147483647, [])), (6, (0, (Int.negSucc 2147483647), 2147483647, [])), (7, (0, 0, 1, []))], [(1, (Int.negSucc 39999999), 690000000, []), (0, 8, 8, []), (2, 0, 0, [130])], (0, 0), [(0, 0, 99779), (0, 0, 0), (0, 0, 0)], [], [((3, 1), (0, (Int.negSucc 0), 7, [])), ((1, 1), (0, 0, 48, []))], [], 0, [], []), (245, [(0, (2, 0, 0, [11])), (1, (2, 0, 0, [3])), (2, (2, 0, 0, [2])), (3, (2, 0, 0, [0])), (4, (0, 0, 23, [])), (5, (0, (Int.negSucc 2147483647), 2147483647, [])), (6, (0, (Int.negSucc 2147483647), 2147483647, [])), (7, (0, 0, 1, []))], [(1, (Int.negSucc 39999999), 690000000, []), (0, 9, 9, []), (2, 0, 0, [130])], (0, 0), [(0, 0, 99755), (0, 0, 0), (0, 0, 0)], [], [((3, 1), (0, (Int.negSucc 0), 7, [])), ((1, 1), (0, 0, 48, []))], [], 0, [], [])]
def t_Sy_lookAtNode_ct : ct_L := [(1, 214, e_Gr_distance), (288, 203, e_jInt_bitCount_v8)]
set_option maxRecDepth 100000 in
theorem c_Sy_lookAtNode {l : Launch} {D : va_G} {kA : Nat → ClassId} (h_Gr_distance : ct_ok PRD l D kA GG y_Gr_distance z_Gr_distance e_Gr_distance) : ct_ok PRD l D kA GG y_Sy_lookAtNode z_Sy_lookAtNode e_Sy_lookAtNode := chk_all_ok (FT := [(66, 11, 16), (185, 3, 1), (191, 3, 8), (194, 3, 7), (197, 0, 1), (200, 3, 14), (208, 3, 5), (211, 3, 6), (217, 2, 7), (222, 2, 8), (225, 0, 2), (228, 0, 3)]) (PT := []) (CT := t_Sy_lookAtNode_ct) (KT := []) (NT := []) (AN := n_Sy_lookAtNode_an) (OT := []) 3 568 (List.forall_mem_nil _) (by decide +kernel) ⟨List.forall_mem_cons.mpr ⟨gf_Sy_66, List.forall_mem_cons.mpr ⟨gf_Sy_185, List.forall_mem_cons.mpr ⟨gf_Sy_191, List.forall_mem_cons.mpr ⟨gf_Sy_194, List.forall_mem_cons.mpr ⟨gf_Sy_197, List.forall_mem_cons.mpr ⟨gf_Sy_200, List.forall_mem_cons.mpr ⟨gf_Sy_208, List.forall_mem_cons.mpr ⟨gf_Sy_211, List.forall_mem_cons.mpr ⟨gf_Sy_217, List.forall_mem_cons.mpr ⟨gf_Sy_222, List.forall_mem_cons.mpr ⟨gf_Sy_225, List.forall_mem_cons.mpr ⟨gf_Sy_228, List.forall_mem_nil _⟩⟩⟩⟩⟩⟩⟩⟩⟩⟩⟩⟩, List.forall_mem_nil _, List.forall_mem_cons.mpr ⟨cl_virtual (y := y_Gr_distance) (ci := 3) rfl rfl ⟨_, _, rfl⟩ (by decide +kernel) h_Gr_distance wm_1021 wm_3 wm_2292 wm_1019 wm_1020 ⟨by decide, by decide, by decide +kernel⟩ (by decide), List.forall_mem_cons.mpr ⟨cl_static (y := y_jInt_bitCount) c_jInt_bitCount_v8 wm_870 wm_17 wm_2291 wm_869 ⟨by decide, by decide, by decide +kernel⟩ (by decide), List.forall_mem_nil _⟩⟩, List.forall_mem_nil _, List.forall_mem_nil _, GG_pl⟩ (by decide +kernel)
def n_Mo_isLonger_an : List an_T := []
def t_Mo_isLonger_ct : ct_L := [(0, 1091, e_Mo_turnOf), (240, 1097, e_jMath_max2_v118), (261, 1097, e_jMath_max2_v118), (270, 1095, e_jMath_min2_v119), (288, 1095, e_jMath_min2_v119), (309, 1095, e_jMath_min2_v119), (318, 1097, e_jMath_max2_v118), (345, 1097, e_jMath_max2_v120), (366, 1097, e_jMath_max2_v120), (375, 1095, e_jMath_min2_v121), (393, 1095, e_jMath_min2_v121), (414, 1095, e_jMath_min2_v121), (423, 1097, e_jMath_max2_v120)]
set_option maxRecDepth 100000 in
theorem c_Mo_isLonger {l : Launch} {D : va_G} {kA : Nat → ClassId} (h_Mo_turnOf : ct_ok PRD l D kA GG y_Mo_turnOf z_Mo_turnOf e_Mo_turnOf) : ct_ok PRD l D kA GG y_Mo_isLonger z_Mo_isLonger e_Mo_isLonger := chk_all_ok (FT := []) (PT := []) (CT := t_Mo_isLonger_ct) (KT := []) (NT := []) (AN := n_Mo_isLonger_an) (OT := []) 0 400 (List.forall_mem_nil _) (by decide +kernel) ⟨List.forall_mem_nil _, List.forall_mem_nil _, List.forall_mem_cons.mpr ⟨cl_static (y := y_Mo_turnOf) h_Mo_turnOf wm_3745 wm_9 wm_3743 wm_3744 ⟨by decide, by decide, by decide +kernel⟩ (by decide), List.forall_mem_cons.mpr ⟨cl_static (y := y_jMath_max2) c_jMath_max2_v118 wm_1750 wm_10 wm_3757 wm_1749 ⟨by decide, by decide, by decide +kernel⟩ (by decide), List.forall_mem_cons.mpr ⟨cl_static (y := y_jMath_max2) c_jMath_max2_v118 wm_1750 wm_10 wm_3757 wm_1749 ⟨by decide, by decide, by decide +kernel⟩ (by decide), List.forall_mem_cons.mpr ⟨cl_static (y := y_jMath_min2) c_jMath_min2_v119 wm_1753 wm_10 wm_3756 wm_1752 ⟨by decide, by decide, by decide +kernel⟩ (by decide), List.forall_mem_cons.mpr ⟨cl_static (y := y_jMath_min2) c_jMath_min2_v119 wm_1753 wm_10 wm_3756 wm_1752 ⟨by decide, by decide, by decide +kernel⟩ (by decide), List.forall_mem_cons.mpr ⟨cl_static (y := y_jMath_min2) c_jMath_min2_v119 wm_1753 wm_10 wm_3756 wm_1752 ⟨by decide, by decide, by decide +kernel⟩ (by decide), List.forall_mem_cons.mpr ⟨cl_static (y := y_jMath_max2) c_jMath_max2_v118 wm_1750 wm_10 wm_3757 wm_1749 ⟨by decide, by decide, by decide +kernel⟩ (by decide), List.forall_mem_cons.mpr ⟨cl_static (y := y_jMath_max2) c_jMath_max2_v120 wm_1750 wm_10 wm_3757 wm_1749 ⟨by decide, by decide, by decide +kernel⟩ (by decide), List.forall_mem_cons.mpr ⟨cl_static (y := y_jMath_max2) c_jMath_max2_v120 wm_1750 wm_10 wm_3757 wm_1749 ⟨by decide, by decide, by decide +kernel⟩ (by decide), List.forall_mem_cons.mpr ⟨cl_static (y := y_jMath_min2) c_jMath_min2_v121 wm_1753 wm_10 wm_3756 wm_1752 ⟨by decide, by decide, by decide +kernel⟩ (by decide), List.forall_mem_cons.mpr ⟨cl_static (y := y_jMath_min2) c_jMath_min2_v121 wm_1753 wm_10 wm_3756 wm_1752 ⟨by decide, by decide, by decide +kernel⟩ (by decide), List.forall_mem_cons.mpr ⟨cl_static (y := y_jMath_min2) c_jMath_min2_v121 wm_1753 wm_10 wm_3756 wm_1752 ⟨by decide, by decide, by decide +kernel⟩ (by decide), List.forall_mem_cons.mpr ⟨cl_static (y := y_jMath_max2) c_jMath_max2_v120 wm_1750 wm_10 wm_3757 wm_1749 ⟨by decide, by decide, by decide +kernel⟩ (by decide), List.forall_mem_nil _⟩⟩⟩⟩⟩⟩⟩⟩⟩⟩⟩⟩⟩, List.forall_mem_nil _, List.forall_mem_nil _, GG_pl⟩ (by decide +kernel)
def n_Mo_isOn_an : List an_T := []
def t_Mo_isOn_ct : ct_L := [(0, 1091, e_Mo_turnOf), (72, 1095, e_jMath_min2_v119), (108, 1097, e_jMath_max2_v118), (144, 1095, e_jMath_min2_v121), (180, 1097, e_jMath_max2_v120)]
set_option maxRecDepth 100000 in
theorem c_Mo_isOn {l : Launch} {D : va_G} {kA : Nat → ClassId} (h_Mo_turnOf : ct_ok PRD l D kA GG y_Mo_turnOf z_Mo_turnOf e_Mo_turnOf) : ct_ok PRD l D kA GG y_Mo_isOn z_Mo_isOn e_Mo_isOn := chk_all_ok (FT := []) (PT := []) (CT := t_Mo_isOn_ct) (KT := []) (NT := []) (AN := n_Mo_isOn_an) (OT := []) 0 200 (List.forall_mem_nil _) (by decide +kernel) ⟨List.forall_mem_nil _, List.forall_mem_nil _, List.forall_mem_cons.mpr ⟨cl_static (y := y_Mo_turnOf) h_Mo_turnOf wm_3745 wm_9 wm_3743 wm_3744 ⟨by decide, by decide, by decide +kernel⟩ (by decide), List.forall_mem_cons.mpr ⟨cl_static (y := y_jMath_min2) c_jMath_min2_v119 wm_1753 wm_10 wm_3756 wm_1752 ⟨by decide, by decide, by decide +kernel⟩ (by decide), List.forall_mem_cons.mpr ⟨cl_static (y := y_jMath_max2) c_jMath_max2_v118 wm_1750 wm_10 wm_3757 wm_1749 ⟨by decide, by decide, by decide +kernel⟩ (by decide), List.forall_mem_cons.mpr ⟨cl_static (y := y_jMath_min2) c_jMath_min2_v121 wm_1753 wm_10 wm_3756 wm_1752 ⟨by decide, by decide, by decide +kernel⟩ (by decide), List.forall_mem_cons.mpr ⟨cl_static (y := y_jMath_max2) c_jMath_max2_v120 wm_1750 wm_10 wm_3757 wm_1749 ⟨by decide, by decide, by decide +kernel⟩ (by decide), List.forall_mem_nil _⟩⟩⟩⟩⟩, List.forall_mem_nil _, List.forall_mem_nil _, GG_pl⟩ (by decide +kernel)
set_option maxHeartbeats 4000000 in
theorem vc_Mo_writeNode_0_0 (texts_0 : Int) (gx : Int) (kz_0_170 : 0 ≤ texts_0 ∧ texts_0 ≤ 100000000) (ex2 : gx = texts_0) : 1 * texts_0 + ((-1) * gx + 0) ≤ 0 := by
  first | assumption | omega | grind
set_option maxHeartbeats 4000000 in
theorem vc_Mo_writeNode_0_1 (x2 : Int) (texts_0 : Int) (gx : Int) (k2 : 0 ≤ x2 ∧ x2 ≤ 99999992) (f0 : 1 * texts_0 + ((-1) * x2 + 0) ≤ 0) (kz_0_170 : 0 ≤ texts_0 ∧ texts_0 ≤ 100000000) (ex2 : gx = texts_0) : 1 * gx + ((-1) * x2 + 0) ≤ 0 := by
  first | assumption | omega | grind
def o_Mo_writeNode_0 : or_T := (17, 10, [(0, (2, 0, 0, [165])), (2, (0, 0, 99999992, []))], [(20, [0, 2], [30, 0, 1, 1, 170, -1, 0, 0])], [], [(0, 0, 99999992, [])], [(20, [0, 10], [30, 0, 1, 1, 170, -1, 0, 0]), (23, [10, 2], [0, 1, -1])], [], [])
theorem oo_Mo_writeNode_0 {kA : Nat → ClassId} : or_ok PRD kA GG o_Mo_writeNode_0 := by
  refine or_mk fun A ta ws vs hD hth hl => ?_
  intro t0 r0 t2 k2 f0
  replace f0 := shm_140 f0
  have kz_0_170 := fdq_13 hD hth r0
  have kv0 := fdq_13 hD hth r0
  obtain ⟨x, ex, hx⟩ := iv_ex (ta := ta) (lo := 0) (hi := 99999992) (z := w_fi ws (n_v vs 0) 170) (by omega) (by omega) (by omega) (by omega)
  have ex2 : v_iv (Value.int x) = w_fi ws (n_v vs 0) 170 := ex
  have ex3 : 0 ≤ v_iv (Value.int x) ∧ v_iv (Value.int x) ≤ 99999992 := tv_rng hx
  have e_0 : n_v (vs ++ [Value.int x]) 0 = n_v vs 0 := n_v_old (by rw [hl]; decide)
  have e_2 : n_v (vs ++ [Value.int x]) 2 = n_v vs 2 := n_v_old (by rw [hl]; decide)
  have e_10 : n_v (vs ++ [Value.int x]) 10 = Value.int x := n_v_new hl
  have nf0 : fc_1 PRD (20, [0, 10], [30, 0, 1, 1, 170, -1, 0, 0]) ws (vs ++ [Value.int x]) := by
    refine ⟨nf_inA hl rfl, sgq_140 ?_⟩
    · show 1 * w_fi ws (n_v (vs ++ [Value.int x]) 0) 170 + ((-1) * v_iv (n_v (vs ++ [Value.int x]) 10) + 0) ≤ 0
      simp only [e_0, e_10]
      exact vc_Mo_writeNode_0_0 (w_fi ws (n_v vs 0) 170) (v_iv (Value.int x)) kz_0_170 ex2
  have nf1 : fc_1 PRD (23, [10, 2], [0, 1, -1]) ws (vs ++ [Value.int x]) := by
    refine ⟨nf_inA hl rfl, sgq_7 ?_⟩
    · show 1 * v_iv (n_v (vs ++ [Value.int x]) 10) + ((-1) * v_iv (n_v (vs ++ [Value.int x]) 2) + 0) ≤ 0
      simp only [e_2, e_10]
      exact vc_Mo_writeNode_0_1 (v_iv (n_v vs 2)) (w_fi ws (n_v vs 0) 170) (v_iv (Value.int x)) k2 f0 kz_0_170 ex2
  exact ⟨(fun _ h => (by cases h)), [Value.int x], ag_one hx, List.forall_mem_cons.mpr ⟨⟨show (20 : Nat) < 100 from by decide, nf0⟩, List.forall_mem_cons.mpr ⟨⟨show (23 : Nat) < 100 from by decide, nf1⟩, (fun _ h => (by cases h))⟩⟩, (fun _ h => (by cases h))⟩
set_option maxHeartbeats 4000000 in
theorem vc_Mo_writeNode_1_0 (x2 : Int) (x10 : Int) (texts_0 : Int) (k2 : 0 ≤ x2 ∧ x2 ≤ 99999992) (k10 : 0 ≤ x10 ∧ x10 ≤ 99999992) (f0 : 1 * x10 + ((-1) * x2 + 0) ≤ 0) (f1 : 1 * texts_0 + ((-1) * x10 + 0) ≤ 8) (kz_0_170 : 0 ≤ texts_0 ∧ texts_0 ≤ 100000000) : 1 * texts_0 + ((-1) * x2 + 0) ≤ 8 := by
  first | assumption | omega | grind
def o_Mo_writeNode_1 : or_T := (20, 11, [(0, (2, 0, 0, [165])), (2, (0, 0, 99999992, [])), (10, (0, 0, 99999992, []))], [(23, [10, 2], [0, 1, -1]), (20, [0, 10], [30, 8, 1, 1, 170, -1, 0, 0])], [], [], [(20, [0, 2], [30, 8, 1, 1, 170, -1, 0, 0])], [], [])
theorem oo_Mo_writeNode_1 {kA : Nat → ClassId} : or_ok PRD kA GG o_Mo_writeNode_1 := by
  refine or_mk fun A ta ws vs hD hth hl => ?_
  intro t0 r0 t2 k2 t10 k10 f0 f1
  have kz_0_170 := fdq_13 hD hth r0
  have nf0 : fc_1 PRD (20, [0, 2], [30, 8, 1, 1, 170, -1, 0, 0]) ws (vs) := ⟨nf_in hl rfl, sgq_172 (vc_Mo_writeNode_1_0 (v_iv (n_v vs 2)) (v_iv (n_v vs 10)) (w_fi ws (n_v vs 0) 170) k2 k10 (shm_7 f0) (shm_172 f1) kz_0_170)⟩
  refine ⟨(fun _ h => (by cases h)), [], trivial, ?_, (fun _ h => (by cases h))⟩
  rw [List.append_nil]
  exact List.forall_mem_cons.mpr ⟨⟨show (20 : Nat) < 100 from by decide, nf0⟩, (fun _ h => (by cases h))⟩
def n_Mo_writeNode_an : List an_T := []
def t_Mo_writeNode_ct : ct_L := [(1, 478, e_Mo_longOf), (1, 1285, e_Mo_writeName)]
set_option maxRecDepth 100000 in
theorem c_Mo_writeNode {l : Launch} {D : va_G} {kA : Nat → ClassId} (h_Mo_longOf : ct_ok PRD l D kA GG y_Mo_longOf z_Mo_longOf e_Mo_longOf) (h_Mo_writeName : ct_ok PRD l D kA GG y_Mo_writeName z_Mo_writeName e_Mo_writeName) : ct_ok PRD l D kA GG y_Mo_writeNode z_Mo_writeNode e_Mo_writeNode := chk_all_ok (FT := [(391, 13, 5)]) (PT := []) (CT := t_Mo_writeNode_ct) (KT := []) (NT := []) (AN := n_Mo_writeNode_an) (OT := [o_Mo_writeNode_0, o_Mo_writeNode_1]) 0 200 (List.forall_mem_cons.mpr ⟨oo_Mo_writeNode_0, List.forall_mem_cons.mpr ⟨oo_Mo_writeNode_1, List.forall_mem_nil _⟩⟩) (by decide +kernel) ⟨List.forall_mem_cons.mpr ⟨gf_Mo_391, List.forall_mem_nil _⟩, List.forall_mem_nil _, List.forall_mem_cons.mpr ⟨cl_virtual (y := y_Mo_longOf) (ci := 13) rfl rfl ⟨_, _, rfl⟩ (by decide +kernel) h_Mo_longOf wm_3029 wm_9 wm_3026 wm_3028 wv_13_4 ⟨by decide, by decide, by decide +kernel⟩ (by decide), List.forall_mem_cons.mpr ⟨cl_virtual (y := y_Mo_writeName) (ci := 13) rfl rfl ⟨_, _, rfl⟩ (by decide +kernel) h_Mo_writeName wm_3922 wm_9 wm_3919 wm_3921 wv_24_10 ⟨by decide, by decide, by decide +kernel⟩ (by decide), List.forall_mem_nil _⟩⟩, List.forall_mem_nil _, List.forall_mem_nil _, GG_pl⟩ (by decide +kernel)
def n_Ho_at_an : List an_T := []
def t_Ho_at_ct : ct_L := [(0, 115, e_Ho_isPlace), (1, 312, e_Dr_coordinate)]
set_option maxRecDepth 100000 in
theorem c_Ho_at {l : Launch} {D : va_G} {kA : Nat → ClassId} (h_Dr_coordinate : ct_ok PRD l D kA GG y_Dr_coordinate z_Dr_coordinate e_Dr_coordinate) (h_Ho_isPlace : ct_ok PRD l D kA GG y_Ho_isPlace z_Ho_isPlace e_Ho_isPlace) : ct_ok PRD l D kA GG y_Ho_at z_Ho_at e_Ho_at := chk_all_ok (FT := [(31, 12, 3)]) (PT := []) (CT := t_Ho_at_ct) (KT := [(1, 315, .int (Int32.ofInt (-2147483648)), (0, -2147483648, -2147483648, []))]) (NT := []) (AN := n_Ho_at_an) (OT := []) 0 200 (List.forall_mem_nil _) (by decide +kernel) ⟨List.forall_mem_cons.mpr ⟨gf_Ho_31, List.forall_mem_nil _⟩, List.forall_mem_nil _, List.forall_mem_cons.mpr ⟨cl_static (y := y_Ho_isPlace) h_Ho_isPlace wm_633 wm_1 wm_631 wm_632 ⟨by decide, by decide, by decide +kernel⟩ (by decide), List.forall_mem_cons.mpr ⟨cl_virtual (y := y_Dr_coordinate) (ci := 0) rfl rfl ⟨_, _, rfl⟩ (by decide +kernel) h_Dr_coordinate wm_1820 wm_8 wm_1817 wm_1818 wm_1819 ⟨by decide, by decide, by decide +kernel⟩ (by decide), List.forall_mem_nil _⟩⟩, List.forall_mem_cons.mpr ⟨kx_Ho_1_315, List.forall_mem_nil _⟩, List.forall_mem_nil _, GG_pl⟩ (by decide +kernel)
def n_Ho_far_an : List an_T := []
def t_Ho_far_ct : ct_L := [(0, 115, e_Ho_isPlace), (1, 166, e_Gr_hasNode), (1, 247, e_Gr_distance)]
set_option maxRecDepth 100000 in
theorem c_Ho_far {l : Launch} {D : va_G} {kA : Nat → ClassId} (h_Gr_distance : ct_ok PRD l D kA GG y_Gr_distance z_Gr_distance e_Gr_distance) (h_Gr_hasNode : ct_ok PRD l D kA GG y_Gr_hasNode z_Gr_hasNode e_Gr_hasNode) (h_Ho_isPlace : ct_ok PRD l D kA GG y_Ho_isPlace z_Ho_isPlace e_Ho_isPlace) : ct_ok PRD l D kA GG y_Ho_far z_Ho_far e_Ho_far := chk_all_ok (FT := [(13, 12, 0)]) (PT := []) (CT := t_Ho_far_ct) (KT := []) (NT := []) (AN := n_Ho_far_an) (OT := []) 0 200 (List.forall_mem_nil _) (by decide +kernel) ⟨List.forall_mem_cons.mpr ⟨gf_Ho_13, List.forall_mem_nil _⟩, List.forall_mem_nil _, List.forall_mem_cons.mpr ⟨cl_static (y := y_Ho_isPlace) h_Ho_isPlace wm_633 wm_1 wm_631 wm_632 ⟨by decide, by decide, by decide +kernel⟩ (by decide), List.forall_mem_cons.mpr ⟨cl_virtual (y := y_Gr_hasNode) (ci := 3) rfl rfl ⟨_, _, rfl⟩ (by decide +kernel) h_Gr_hasNode wm_921 wm_3 wm_918 wm_919 wm_920 ⟨by decide, by decide, by decide +kernel⟩ (by decide), List.forall_mem_cons.mpr ⟨cl_virtual (y := y_Gr_distance) (ci := 3) rfl rfl ⟨_, _, rfl⟩ (by decide +kernel) h_Gr_distance wm_1021 wm_3 wm_1018 wm_1019 wm_1020 ⟨by decide, by decide, by decide +kernel⟩ (by decide), List.forall_mem_nil _⟩⟩⟩, List.forall_mem_nil _, List.forall_mem_nil _, GG_pl⟩ (by decide +kernel)
def o_Ho_put_0 : or_T := (19, 10, [(0, (2, 0, 0, [12])), (6, (0, 0, 3066, []))], [(20, [0, 6], [62, 2000000])], [], [(2, 0, 0, [12]), (0, 0, 3072, [])], [(24, [0, 10], []), (23, [11, 6], [0, 1, -1]), (23, [11, 6], [0, -1, 1]), (20, [10, 11], [62, 2000000])], [], [])
theorem oo_Ho_put_0 {kA : Nat → ClassId} : or_ok PRD kA GG o_Ho_put_0 := by
  refine or_mk fun A ta ws vs hD hth hl => ?_
  intro t0 r0 t6 k6 f0
  replace f0 := shm_173 f0
  obtain ⟨y, ey, hy⟩ := iv_ex (ta := ta) (lo := 0) (hi := 3072) (z := v_iv (n_v vs 6)) (by omega) (by omega) (by omega) (by omega)
  have ey2 : v_iv (Value.int y) = v_iv (n_v vs 6) := ey
  have ey3 : 0 ≤ v_iv (Value.int y) ∧ v_iv (Value.int y) ≤ 3072 := tv_rng hy
  have e_0 : n_v (vs ++ [n_v vs 0, Value.int y]) 0 = n_v vs 0 := n_v_old (by rw [hl]; decide)
  have e_6 : n_v (vs ++ [n_v vs 0, Value.int y]) 6 = n_v vs 6 := n_v_old (by rw [hl]; decide)
  have e_10 : n_v (vs ++ [n_v vs 0, Value.int y]) 10 = n_v vs 0 := n_v_new0 hl
  have e_11 : n_v (vs ++ [n_v vs 0, Value.int y]) 11 = Value.int y := n_v_new1 hl
  have nf0 : fc_1 PRD (24, [0, 10], []) ws (vs ++ [n_v vs 0, Value.int y]) := by
    refine ⟨nf_inA hl rfl, sgq_5 ?_⟩
    · show n_v (vs ++ [n_v vs 0, Value.int y]) 0 = n_v (vs ++ [n_v vs 0, Value.int y]) 10
      first | rfl | simp only [e_0, e_10]
  have nf1 : fc_1 PRD (23, [11, 6], [0, 1, -1]) ws (vs ++ [n_v vs 0, Value.int y]) := by
    refine ⟨nf_inA hl rfl, sgq_7 ?_⟩
    · show 1 * v_iv (n_v (vs ++ [n_v vs 0, Value.int y]) 11) + ((-1) * v_iv (n_v (vs ++ [n_v vs 0, Value.int y]) 6) + 0) ≤ 0
      simp only [e_6, e_11]
      omega
  have nf2 : fc_1 PRD (23, [11, 6], [0, -1, 1]) ws (vs ++ [n_v vs 0, Value.int y]) := by
    refine ⟨nf_inA hl rfl, sgq_22 ?_⟩
    · show (-1) * v_iv (n_v (vs ++ [n_v vs 0, Value.int y]) 11) + (1 * v_iv (n_v (vs ++ [n_v vs 0, Value.int y]) 6) + 0) ≤ 0
      simp only [e_6, e_11]
      omega
  have nf3 : fc_1 PRD (20, [10, 11], [62, 2000000]) ws (vs ++ [n_v vs 0, Value.int y]) := by
    refine ⟨nf_inA hl rfl, sgq_173 ?_⟩
    · show HY ws (n_v (vs ++ [n_v vs 0, Value.int y]) 10) (v_iv (n_v (vs ++ [n_v vs 0, Value.int y]) 11) + (((2000000 : Nat) : Int) - 2000000))
      simp only [e_10, e_11]
      exact hy_le f0 (by omega)
  exact ⟨(fun _ h => (by cases h)), [n_v vs 0, Value.int y], ag_two t0 hy, List.forall_mem_cons.mpr ⟨⟨show (24 : Nat) < 100 from by decide, nf0⟩, List.forall_mem_cons.mpr ⟨⟨show (23 : Nat) < 100 from by decide, nf1⟩, List.forall_mem_cons.mpr ⟨⟨show (23 : Nat) < 100 from by decide, nf2⟩, List.forall_mem_cons.mpr ⟨⟨show (20 : Nat) < 100 from by decide, nf3⟩, (fun _ h => (by cases h))⟩⟩⟩⟩, (fun _ h => (by cases h))⟩
def o_Ho_put_1 : or_T := (30, 14, [(0, (2, 0, 0, [12])), (6, (0, 0, 3066, [])), (10, (2, 0, 0, [12])), (11, (0, 0, 3072, []))], [(24, [0, 10], []), (23, [11, 6], [0, 1, -1]), (23, [11, 6], [0, -1, 1]), (20, [10, 11], [62, 2000000]), (102, [11], [442368]), (23, [11, 6], [0, 1, -1]), (23, [11, 6], [0, -1, 1])], [], [], [(20, [0, 6], [62, 2000000])], [], [])
theorem oo_Ho_put_1 {kA : Nat → ClassId} : or_ok PRD kA GG o_Ho_put_1 := by
  refine or_mk fun A ta ws vs hD hth hl => ?_
  intro t0 r0 t6 k6 t10 r10 t11 k11 f0 f1 f2 f3 ta1 w1 le1 s1 f5 f6
  replace f0 := shm_5 f0
  replace f1 := shm_7 f1
  replace f2 := shm_22 f2
  replace f3 := shm_173 f3
  replace f5 := shm_7 f5
  replace f6 := shm_22 f6
  have q10 : n_v vs 10 = n_v vs 0 := f0.symm
  simp only [q10] at f3
  have nf0 : fc_1 PRD (20, [0, 6], [62, 2000000]) ws (vs) := by
    refine ⟨nf_in hl rfl, sgq_173 ?_⟩
    · show HY ws (n_v vs 0) (v_iv (n_v vs 6) + (((2000000 : Nat) : Int) - 2000000))
      exact hy_le f3 (by omega)
  refine ⟨(fun _ h => (by cases h)), [], trivial, ?_, (fun _ h => (by cases h))⟩
  rw [List.append_nil]
  exact List.forall_mem_cons.mpr ⟨⟨show (20 : Nat) < 100 from by decide, nf0⟩, (fun _ h => (by cases h))⟩
def n_Ho_put_an : List an_T := []
def t_Ho_put_ct : ct_L := [(0, 115, e_Ho_isPlace), (1, 319, e_Dr_move)]
set_option maxRecDepth 100000 in
theorem c_Ho_put {l : Launch} {D : va_G} {kA : Nat → ClassId} (h_Dr_move : ct_ok PRD l D kA GG y_Dr_move z_Dr_move e_Dr_move) (h_Ho_isPlace : ct_ok PRD l D kA GG y_Ho_isPlace z_Ho_isPlace e_Ho_isPlace) : ct_ok PRD l D kA GG y_Ho_put z_Ho_put e_Ho_put := chk_all_ok (FT := [(31, 12, 3)]) (PT := []) (CT := t_Ho_put_ct) (KT := []) (NT := []) (AN := n_Ho_put_an) (OT := [o_Ho_put_0, o_Ho_put_1]) 0 200 (List.forall_mem_cons.mpr ⟨oo_Ho_put_0, List.forall_mem_cons.mpr ⟨oo_Ho_put_1, List.forall_mem_nil _⟩⟩) (by decide +kernel) ⟨List.forall_mem_cons.mpr ⟨gf_Ho_31, List.forall_mem_nil _⟩, List.forall_mem_nil _, List.forall_mem_cons.mpr ⟨cl_static (y := y_Ho_isPlace) h_Ho_isPlace wm_633 wm_1 wm_631 wm_632 ⟨by decide, by decide, by decide +kernel⟩ (by decide), List.forall_mem_cons.mpr ⟨cl_virtual (y := y_Dr_move) (ci := 0) rfl rfl ⟨_, _, rfl⟩ (by decide +kernel) h_Dr_move wm_1849 wm_8 wm_1846 wm_1847 wm_1848 ⟨by decide, by decide, by decide +kernel⟩ (by decide), List.forall_mem_nil _⟩⟩, List.forall_mem_nil _, List.forall_mem_nil _, GG_pl⟩ (by decide +kernel)
set_option maxHeartbeats 4000000 in
theorem vc_Ho_writePoint_0_0 (spareLength_0 : Int) (gx : Int) (kz_0_12 : 0 ≤ spareLength_0 ∧ spareLength_0 ≤ 100000000) (ex2 : gx = spareLength_0) : 1 * spareLength_0 + ((-1) * gx + 0) ≤ 0 := by
  first | assumption | omega | grind
set_option maxHeartbeats 4000000 in
theorem vc_Ho_writePoint_0_1 (x3 : Int) (spareLength_0 : Int) (gx : Int) (k3 : 0 ≤ x3 ∧ x3 ≤ 99999982) (f0 : 1 * spareLength_0 + ((-1) * x3 + 0) ≤ 0) (kz_0_12 : 0 ≤ spareLength_0 ∧ spareLength_0 ≤ 100000000) (ex2 : gx = spareLength_0) : 1 * gx + ((-1) * x3 + 0) ≤ 0 := by
  first | assumption | omega | grind
def o_Ho_writePoint_0 : or_T := (3, 5, [(0, (2, 0, 0, [12])), (3, (0, 0, 99999982, []))], [(20, [0, 3], [30, 0, 1, 1, 12, -1, 0, 0])], [], [(0, 0, 99999999, [])], [(20, [0, 5], [30, 0, 1, 1, 12, -1, 0, 0]), (23, [5, 3], [0, 1, -1])], [], [])
theorem oo_Ho_writePoint_0 {kA : Nat → ClassId} : or_ok PRD kA GG o_Ho_writePoint_0 := by
  refine or_mk fun A ta ws vs hD hth hl => ?_
  intro t0 r0 t3 k3 f0
  replace f0 := shm_104 f0
  have kz_0_12 := fdq_0 hD hth r0
  have kv0 := fdq_0 hD hth r0
  obtain ⟨x, ex, hx⟩ := iv_ex (ta := ta) (lo := 0) (hi := 99999999) (z := w_fi ws (n_v vs 0) 12) (by omega) (by omega) (by omega) (by omega)
  have ex2 : v_iv (Value.int x) = w_fi ws (n_v vs 0) 12 := ex
  have ex3 : 0 ≤ v_iv (Value.int x) ∧ v_iv (Value.int x) ≤ 99999999 := tv_rng hx
  have e_0 : n_v (vs ++ [Value.int x]) 0 = n_v vs 0 := n_v_old (by rw [hl]; decide)
  have e_3 : n_v (vs ++ [Value.int x]) 3 = n_v vs 3 := n_v_old (by rw [hl]; decide)
  have e_5 : n_v (vs ++ [Value.int x]) 5 = Value.int x := n_v_new hl
  have nf0 : fc_1 PRD (20, [0, 5], [30, 0, 1, 1, 12, -1, 0, 0]) ws (vs ++ [Value.int x]) := by
    refine ⟨nf_inA hl rfl, sgq_104 ?_⟩
    · show 1 * w_fi ws (n_v (vs ++ [Value.int x]) 0) 12 + ((-1) * v_iv (n_v (vs ++ [Value.int x]) 5) + 0) ≤ 0
      simp only [e_0, e_5]
      exact vc_Ho_writePoint_0_0 (w_fi ws (n_v vs 0) 12) (v_iv (Value.int x)) kz_0_12 ex2
  have nf1 : fc_1 PRD (23, [5, 3], [0, 1, -1]) ws (vs ++ [Value.int x]) := by
    refine ⟨nf_inA hl rfl, sgq_7 ?_⟩
    · show 1 * v_iv (n_v (vs ++ [Value.int x]) 5) + ((-1) * v_iv (n_v (vs ++ [Value.int x]) 3) + 0) ≤ 0
      simp only [e_3, e_5]
      exact vc_Ho_writePoint_0_1 (v_iv (n_v vs 3)) (w_fi ws (n_v vs 0) 12) (v_iv (Value.int x)) k3 f0 kz_0_12 ex2
  exact ⟨(fun _ h => (by cases h)), [Value.int x], ag_one hx, List.forall_mem_cons.mpr ⟨⟨show (20 : Nat) < 100 from by decide, nf0⟩, List.forall_mem_cons.mpr ⟨⟨show (23 : Nat) < 100 from by decide, nf1⟩, (fun _ h => (by cases h))⟩⟩, (fun _ h => (by cases h))⟩
set_option maxHeartbeats 4000000 in
theorem vc_Ho_writePoint_1_0 (spareLength_0 : Int) (gx : Int) (kz_0_12 : 0 ≤ spareLength_0 ∧ spareLength_0 ≤ 100000000) (ex2 : gx = spareLength_0) : 1 * spareLength_0 + ((-1) * gx + 0) ≤ 0 := by
  first | assumption | omega | grind
set_option maxHeartbeats 4000000 in
theorem vc_Ho_writePoint_1_1 (x3 : Int) (x5 : Int) (spareLength_0 : Int) (gx : Int) (k3 : 0 ≤ x3 ∧ x3 ≤ 99999982) (k5 : 0 ≤ x5 ∧ x5 ≤ 99999999) (f0 : 1 * x5 + ((-1) * x3 + 0) ≤ 0) (f1 : 1 * spareLength_0 + ((-1) * x5 + 0) ≤ 1) (kz_0_12 : 0 ≤ spareLength_0 ∧ spareLength_0 ≤ 100000000) (ex2 : gx = spareLength_0) : 1 * gx + ((-1) * x3 + 0) ≤ 1 := by
  first | assumption | omega | grind
def o_Ho_writePoint_1 : or_T := (8, 6, [(0, (2, 0, 0, [12])), (3, (0, 0, 99999982, [])), (5, (0, 0, 99999999, []))], [(23, [5, 3], [0, 1, -1]), (20, [0, 5], [30, 1, 1, 1, 12, -1, 0, 0]), (102, [5], [261336857795280739939871698507597986398208, 12012]), (23, [5, 3], [0, 1, -1])], [], [(0, 0, 99999992, [])], [(20, [0, 6], [30, 0, 1, 1, 12, -1, 0, 0]), (23, [6, 3], [1, 1, -1])], [], [])
theorem oo_Ho_writePoint_1 {kA : Nat → ClassId} : or_ok PRD kA GG o_Ho_writePoint_1 := by
  refine or_mk fun A ta ws vs hD hth hl => ?_
  intro t0 r0 t3 k3 t5 k5 f0 f1 ta1 w1 le1 s1 f3
  replace f0 := shm_7 f0
  replace f1 := shm_105 f1
  replace f3 := shm_7 f3
  have kz_0_12 := fdq_0 hD hth r0
  have kv0 := fdq_0 hD hth r0
  obtain ⟨x, ex, hx⟩ := iv_ex (ta := ta) (lo := 0) (hi := 99999992) (z := w_fi ws (n_v vs 0) 12) (by omega) (by omega) (by omega) (by omega)
  have ex2 : v_iv (Value.int x) = w_fi ws (n_v vs 0) 12 := ex
  have ex3 : 0 ≤ v_iv (Value.int x) ∧ v_iv (Value.int x) ≤ 99999992 := tv_rng hx
  have e_0 : n_v (vs ++ [Value.int x]) 0 = n_v vs 0 := n_v_old (by rw [hl]; decide)
  have e_3 : n_v (vs ++ [Value.int x]) 3 = n_v vs 3 := n_v_old (by rw [hl]; decide)
  have e_6 : n_v (vs ++ [Value.int x]) 6 = Value.int x := n_v_new hl
  have nf0 : fc_1 PRD (20, [0, 6], [30, 0, 1, 1, 12, -1, 0, 0]) ws (vs ++ [Value.int x]) := by
    refine ⟨nf_inA hl rfl, sgq_104 ?_⟩
    · show 1 * w_fi ws (n_v (vs ++ [Value.int x]) 0) 12 + ((-1) * v_iv (n_v (vs ++ [Value.int x]) 6) + 0) ≤ 0
      simp only [e_0, e_6]
      exact vc_Ho_writePoint_1_0 (w_fi ws (n_v vs 0) 12) (v_iv (Value.int x)) kz_0_12 ex2
  have nf1 : fc_1 PRD (23, [6, 3], [1, 1, -1]) ws (vs ++ [Value.int x]) := by
    refine ⟨nf_inA hl rfl, sgq_190 ?_⟩
    · show 1 * v_iv (n_v (vs ++ [Value.int x]) 6) + ((-1) * v_iv (n_v (vs ++ [Value.int x]) 3) + 0) ≤ 1
      simp only [e_3, e_6]
      exact vc_Ho_writePoint_1_1 (v_iv (n_v vs 3)) (v_iv (n_v vs 5)) (w_fi ws (n_v vs 0) 12) (v_iv (Value.int x)) k3 k5 f0 f1 kz_0_12 ex2
  exact ⟨(fun _ h => (by cases h)), [Value.int x], ag_one hx, List.forall_mem_cons.mpr ⟨⟨show (20 : Nat) < 100 from by decide, nf0⟩, List.forall_mem_cons.mpr ⟨⟨show (23 : Nat) < 100 from by decide, nf1⟩, (fun _ h => (by cases h))⟩⟩, (fun _ h => (by cases h))⟩
set_option maxHeartbeats 4000000 in
theorem vc_Ho_writePoint_2_0 (spareLength_0 : Int) (gx : Int) (kz_0_12 : 0 ≤ spareLength_0 ∧ spareLength_0 ≤ 100000000) (ex2 : gx = spareLength_0) : 1 * spareLength_0 + ((-1) * gx + 0) ≤ 0 := by
  first | assumption | omega | grind
set_option maxHeartbeats 4000000 in
theorem vc_Ho_writePoint_2_1 (x3 : Int) (x6 : Int) (spareLength_0 : Int) (gx : Int) (k3 : 0 ≤ x3 ∧ x3 ≤ 99999982) (k6 : 0 ≤ x6 ∧ x6 ≤ 99999992) (f0 : 1 * x6 + ((-1) * x3 + 0) ≤ 1) (f2 : 1 * spareLength_0 + ((-1) * x6 + 0) ≤ 8) (kz_0_12 : 0 ≤ spareLength_0 ∧ spareLength_0 ≤ 100000000) (ex2 : gx = spareLength_0) : 1 * gx + ((-1) * x3 + 0) ≤ 9 := by
  first | assumption | omega | grind
def o_Ho_writePoint_2 : or_T := (14, 8, [(0, (2, 0, 0, [12])), (3, (0, 0, 99999982, [])), (5, (0, 0, 99999999, [])), (6, (0, 0, 99999992, []))], [(23, [6, 3], [1, 1, -1]), (23, [5, 3], [0, 1, -1]), (20, [0, 6], [30, 8, 1, 1, 12, -1, 0, 0]), (102, [6], [261336857795280739939871698507597986398208, 12012]), (23, [6, 3], [1, 1, -1]), (23, [5, 3], [0, 1, -1]), (102, [5], [261336857795280739939871698507597986398208, 12012]), (23, [5, 3], [0, 1, -1])], [], [(0, 0, 99999999, [])], [(20, [0, 8], [30, 0, 1, 1, 12, -1, 0, 0]), (23, [8, 3], [9, 1, -1])], [], [])
theorem oo_Ho_writePoint_2 {kA : Nat → ClassId} : or_ok PRD kA GG o_Ho_writePoint_2 := by
  refine or_mk fun A ta ws vs hD hth hl => ?_
  intro t0 r0 t3 k3 t5 k5 t6 k6 f0 f1 f2 ta1 w1 le1 s1 f4 f5 ta2 w2 le2 s2 f7
  replace f0 := shm_190 f0
  replace f1 := shm_7 f1
  replace f2 := shm_147 f2
  replace f4 := shm_190 f4
  replace f5 := shm_7 f5
  replace f7 := shm_7 f7
  have kz_0_12 := fdq_0 hD hth r0
  have kv0 := fdq_0 hD hth r0
  obtain ⟨x, ex, hx⟩ := iv_ex (ta := ta) (lo := 0) (hi := 99999999) (z := w_fi ws (n_v vs 0) 12) (by omega) (by omega) (by omega) (by omega)
  have ex2 : v_iv (Value.int x) = w_fi ws (n_v vs 0) 12 := ex
  have ex3 : 0 ≤ v_iv (Value.int x) ∧ v_iv (Value.int x) ≤ 99999999 := tv_rng hx
  have e_0 : n_v (vs ++ [Value.int x]) 0 = n_v vs 0 := n_v_old (by rw [hl]; decide)
  have e_3 : n_v (vs ++ [Value.int x]) 3 = n_v vs 3 := n_v_old (by rw [hl]; decide)
  have e_8 : n_v (vs ++ [Value.int x]) 8 = Value.int x := n_v_new hl
  have nf0 : fc_1 PRD (20, [0, 8], [30, 0, 1, 1, 12, -1, 0, 0]) ws (vs ++ [Value.int x]) := by
    refine ⟨nf_inA hl rfl, sgq_104 ?_⟩
    · show 1 * w_fi ws (n_v (vs ++ [Value.int x]) 0) 12 + ((-1) * v_iv (n_v (vs ++ [Value.int x]) 8) + 0) ≤ 0
      simp only [e_0, e_8]
      exact vc_Ho_writePoint_2_0 (w_fi ws (n_v vs 0) 12) (v_iv (Value.int x)) kz_0_12 ex2
  have nf1 : fc_1 PRD (23, [8, 3], [9, 1, -1]) ws (vs ++ [Value.int x]) := by
    refine ⟨nf_inA hl rfl, sgq_191 ?_⟩
    · show 1 * v_iv (n_v (vs ++ [Value.int x]) 8) + ((-1) * v_iv (n_v (vs ++ [Value.int x]) 3) + 0) ≤ 9
      simp only [e_3, e_8]
      exact vc_Ho_writePoint_2_1 (v_iv (n_v vs 3)) (v_iv (n_v vs 6)) (w_fi ws (n_v vs 0) 12) (v_iv (Value.int x)) k3 k6 f0 f2 kz_0_12 ex2
  exact ⟨(fun _ h => (by cases h)), [Value.int x], ag_one hx, List.forall_mem_cons.mpr ⟨⟨show (20 : Nat) < 100 from by decide, nf0⟩, List.forall_mem_cons.mpr ⟨⟨show (23 : Nat) < 100 from by decide, nf1⟩, (fun _ h => (by cases h))⟩⟩, (fun _ h => (by cases h))⟩
set_option maxHeartbeats 4000000 in
theorem vc_Ho_writePoint_3_0 (spareLength_0 : Int) (gx : Int) (kz_0_12 : 0 ≤ spareLength_0 ∧ spareLength_0 ≤ 100000000) (ex2 : gx = spareLength_0) : 1 * spareLength_0 + ((-1) * gx + 0) ≤ 0 := by
  first | assumption | omega | grind
set_option maxHeartbeats 4000000 in
theorem vc_Ho_writePoint_3_1 (x3 : Int) (x8 : Int) (spareLength_0 : Int) (gx : Int) (k3 : 0 ≤ x3 ∧ x3 ≤ 99999982) (k8 : 0 ≤ x8 ∧ x8 ≤ 99999999) (f0 : 1 * x8 + ((-1) * x3 + 0) ≤ 9) (f3 : 1 * spareLength_0 + ((-1) * x8 + 0) ≤ 1) (kz_0_12 : 0 ≤ spareLength_0 ∧ spareLength_0 ≤ 100000000) (ex2 : gx = spareLength_0) : 1 * gx + ((-1) * x3 + 0) ≤ 10 := by
  first | assumption | omega | grind
def o_Ho_writePoint_3 : or_T := (19, 9, [(0, (2, 0, 0, [12])), (3, (0, 0, 99999982, [])), (5, (0, 0, 99999999, [])), (6, (0, 0, 99999992, [])), (8, (0, 0, 99999999, []))], [(23, [8, 3], [9, 1, -1]), (23, [6, 3], [1, 1, -1]), (23, [5, 3], [0, 1, -1]), (20, [0, 8], [30, 1, 1, 1, 12, -1, 0, 0]), (102, [8], [261336857795280739939871698507597986398208, 12012]), (23, [8, 3], [9, 1, -1]), (23, [6, 3], [1, 1, -1]), (23, [5, 3], [0, 1, -1]), (102, [6], [261336857795280739939871698507597986398208, 12012]), (23, [6, 3], [1, 1, -1]), (23, [5, 3], [0, 1, -1]), (102, [5], [261336857795280739939871698507597986398208, 12012]), (23, [5, 3], [0, 1, -1])], [], [(0, 0, 99999992, [])], [(20, [0, 9], [30, 0, 1, 1, 12, -1, 0, 0]), (23, [9, 3], [10, 1, -1])], [], [])
theorem oo_Ho_writePoint_3 {kA : Nat → ClassId} : or_ok PRD kA GG o_Ho_writePoint_3 := by
  refine or_mk fun A ta ws vs hD hth hl => ?_
  intro t0 r0 t3 k3 t5 k5 t6 k6 t8 k8 f0 f1 f2 f3 ta1 w1 le1 s1 f5 f6 f7 ta2 w2 le2 s2 f9 f10 ta3 w3 le3 s3 f12
  replace f0 := shm_191 f0
  replace f1 := shm_190 f1
  replace f2 := shm_7 f2
  replace f3 := shm_105 f3
  replace f5 := shm_191 f5
  replace f6 := shm_190 f6
  replace f7 := shm_7 f7
  replace f9 := shm_190 f9
  replace f10 := shm_7 f10
  replace f12 := shm_7 f12
  have kz_0_12 := fdq_0 hD hth r0
  have kv0 := fdq_0 hD hth r0
  obtain ⟨x, ex, hx⟩ := iv_ex (ta := ta) (lo := 0) (hi := 99999992) (z := w_fi ws (n_v vs 0) 12) (by omega) (by omega) (by omega) (by omega)
  have ex2 : v_iv (Value.int x) = w_fi ws (n_v vs 0) 12 := ex
  have ex3 : 0 ≤ v_iv (Value.int x) ∧ v_iv (Value.int x) ≤ 99999992 := tv_rng hx
  have e_0 : n_v (vs ++ [Value.int x]) 0 = n_v vs 0 := n_v_old (by rw [hl]; decide)
  have e_3 : n_v (vs ++ [Value.int x]) 3 = n_v vs 3 := n_v_old (by rw [hl]; decide)
  have e_9 : n_v (vs ++ [Value.int x]) 9 = Value.int x := n_v_new hl
  have nf0 : fc_1 PRD (20, [0, 9], [30, 0, 1, 1, 12, -1, 0, 0]) ws (vs ++ [Value.int x]) := by
    refine ⟨nf_inA hl rfl, sgq_104 ?_⟩
    · show 1 * w_fi ws (n_v (vs ++ [Value.int x]) 0) 12 + ((-1) * v_iv (n_v (vs ++ [Value.int x]) 9) + 0) ≤ 0
      simp only [e_0, e_9]
      exact vc_Ho_writePoint_3_0 (w_fi ws (n_v vs 0) 12) (v_iv (Value.int x)) kz_0_12 ex2
  have nf1 : fc_1 PRD (23, [9, 3], [10, 1, -1]) ws (vs ++ [Value.int x]) := by
    refine ⟨nf_inA hl rfl, sgq_192 ?_⟩
    · show 1 * v_iv (n_v (vs ++ [Value.int x]) 9) + ((-1) * v_iv (n_v (vs ++ [Value.int x]) 3) + 0) ≤ 10
      simp only [e_3, e_9]
      exact vc_Ho_writePoint_3_1 (v_iv (n_v vs 3)) (v_iv (n_v vs 8)) (w_fi ws (n_v vs 0) 12) (v_iv (Value.int x)) k3 k8 f0 f3 kz_0_12 ex2
  exact ⟨(fun _ h => (by cases h)), [Value.int x], ag_one hx, List.forall_mem_cons.mpr ⟨⟨show (20 : Nat) < 100 from by decide, nf0⟩, List.forall_mem_cons.mpr ⟨⟨show (23 : Nat) < 100 from by decide, nf1⟩, (fun _ h => (by cases h))⟩⟩, (fun _ h => (by cases h))⟩
set_option maxHeartbeats 4000000 in
theorem vc_Ho_writePoint_4_0 (x3 : Int) (x9 : Int) (spareLength_0 : Int) (k3 : 0 ≤ x3 ∧ x3 ≤ 99999982) (k9 : 0 ≤ x9 ∧ x9 ≤ 99999992) (f0 : 1 * x9 + ((-1) * x3 + 0) ≤ 10) (f4 : 1 * spareLength_0 + ((-1) * x9 + 0) ≤ 8) (kz_0_12 : 0 ≤ spareLength_0 ∧ spareLength_0 ≤ 100000000) : 1 * spareLength_0 + ((-1) * x3 + 0) ≤ 18 := by
  first | assumption | omega | grind
def o_Ho_writePoint_4 : or_T := (22, 10, [(0, (2, 0, 0, [12])), (3, (0, 0, 99999982, [])), (9, (0, 0, 99999992, []))], [(23, [9, 3], [10, 1, -1]), (20, [0, 9], [30, 8, 1, 1, 12, -1, 0, 0])], [], [], [(20, [0, 3], [30, 18, 1, 1, 12, -1, 0, 0])], [], [])
theorem oo_Ho_writePoint_4 {kA : Nat → ClassId} : or_ok PRD kA GG o_Ho_writePoint_4 := by
  refine or_mk fun A ta ws vs hD hth hl => ?_
  intro t0 r0 t3 k3 t9 k9 f0 f4
  have kz_0_12 := fdq_0 hD hth r0
  have nf0 : fc_1 PRD (20, [0, 3], [30, 18, 1, 1, 12, -1, 0, 0]) ws (vs) := ⟨nf_in hl rfl, sgq_193 (vc_Ho_writePoint_4_0 (v_iv (n_v vs 3)) (v_iv (n_v vs 9)) (w_fi ws (n_v vs 0) 12) k3 k9 (shm_192 f0) (shm_147 f4) kz_0_12)⟩
  refine ⟨(fun _ h => (by cases h)), [], trivial, ?_, (fun _ h => (by cases h))⟩
  rw [List.append_nil]
  exact List.forall_mem_cons.mpr ⟨⟨show (20 : Nat) < 100 from by decide, nf0⟩, (fun _ h => (by cases h))⟩
def n_Ho_writePoint_an : List an_T := []
def t_Ho_writePoint_ct : ct_L := [(1, 447, e_Ho_writeByte), (1, 471, e_Ho_writeNumber)]
set_option maxRecDepth 100000 in
theorem c_Ho_writePoint {l : Launch} {D : va_G} {kA : Nat → ClassId} (h_Ho_writeByte : ct_ok PRD l D kA GG y_Ho_writeByte z_Ho_writeByte e_Ho_writeByte) (h_Ho_writeNumber : ct_ok PRD l D kA GG y_Ho_writeNumber z_Ho_writeNumber e_Ho_writeNumber) : ct_ok PRD l D kA GG y_Ho_writePoint z_Ho_writePoint e_Ho_writePoint := chk_all_ok (FT := []) (PT := []) (CT := t_Ho_writePoint_ct) (KT := []) (NT := []) (AN := n_Ho_writePoint_an) (OT := [o_Ho_writePoint_0, o_Ho_writePoint_1, o_Ho_writePoint_2, o_Ho_writePoint_3, o_Ho_writePoint_4]) 0 200 (List.forall_mem_cons.mpr ⟨oo_Ho_writePoint_0, List.forall_mem_cons.mpr ⟨oo_Ho_writePoint_1, List.forall_mem_cons.mpr ⟨oo_Ho_writePoint_2, List.forall_mem_cons.mpr ⟨oo_Ho_writePoint_3, List.forall_mem_cons.mpr ⟨oo_Ho_writePoint_4, List.forall_mem_nil _⟩⟩⟩⟩⟩) (by decide +kernel) ⟨List.forall_mem_nil _, List.forall_mem_nil _, List.forall_mem_cons.mpr ⟨cl_virtual (y := y_Ho_writeByte) (ci := 12) rfl rfl ⟨_, _, rfl⟩ (by decide +kernel) h_Ho_writeByte wm_2345 wm_1 wm_2342 wm_2344 wv_12_0 ⟨by decide, by decide, by decide +kernel⟩ (by decide), List.forall_mem_cons.mpr ⟨cl_virtual (y := y_Ho_writeNumber) (ci := 12) rfl rfl ⟨_, _, rfl⟩ (by decide +kernel) h_Ho_writeNumber wm_2354 wm_1 wm_2351 wm_2353 wv_12_2 ⟨by decide, by decide, by decide +kernel⟩ (by decide), List.forall_mem_nil _⟩⟩, List.forall_mem_nil _, List.forall_mem_nil _, GG_pl⟩ (by decide +kernel)
def o_La_sweep_0 : or_T := (118, 9, [(5, (0, 0, 0, [])), (7, (0, 0, 0, [])), (8, (0, 0, 72, []))], [], [], [], [(21, [5, 8], [72]), (21, [7, 8], [72])], [], [])
theorem oo_La_sweep_0 {kA : Nat → ClassId} : or_ok PRD kA GG o_La_sweep_0 := by
  refine or_mk fun A ta ws vs hD hth hl => ?_
  intro t5 k5 t7 k7 t8 k8
  have nf0 : fc_1 PRD (21, [5, 8], [72]) ws (vs) := by
    refine ⟨nf_in hl rfl, sgq_194 ?_⟩
    · show v_iv (n_v vs 5) + v_iv (n_v vs 8) ≤ 72
      omega
  have nf1 : fc_1 PRD (21, [7, 8], [72]) ws (vs) := by
    refine ⟨nf_in hl rfl, sgq_194 ?_⟩
    · show v_iv (n_v vs 7) + v_iv (n_v vs 8) ≤ 72
      omega
  refine ⟨(fun _ h => (by cases h)), [], trivial, ?_, (fun _ h => (by cases h))⟩
  rw [List.append_nil]
  exact List.forall_mem_cons.mpr ⟨⟨show (21 : Nat) < 100 from by decide, nf0⟩, List.forall_mem_cons.mpr ⟨⟨show (21 : Nat) < 100 from by decide, nf1⟩, (fun _ h => (by cases h))⟩⟩
def o_La_sweep_1 : or_T := (95, 11, [(7, (0, 0, 0, [])), (9, (0, 0, 0, [])), (10, (0, 0, 72, []))], [], [], [], [(21, [7, 10], [72]), (21, [9, 10], [72])], [], [])
theorem oo_La_sweep_1 {kA : Nat → ClassId} : or_ok PRD kA GG o_La_sweep_1 := by
  refine or_mk fun A ta ws vs hD hth hl => ?_
  intro t7 k7 t9 k9 t10 k10
  have nf0 : fc_1 PRD (21, [7, 10], [72]) ws (vs) := by
    refine ⟨nf_in hl rfl, sgq_194 ?_⟩
    · show v_iv (n_v vs 7) + v_iv (n_v vs 10) ≤ 72
      omega
  have nf1 : fc_1 PRD (21, [9, 10], [72]) ws (vs) := by
    refine ⟨nf_in hl rfl, sgq_194 ?_⟩
    · show v_iv (n_v vs 9) + v_iv (n_v vs 10) ≤ 72
      omega
  refine ⟨(fun _ h => (by cases h)), [], trivial, ?_, (fun _ h => (by cases h))⟩
  rw [List.append_nil]
  exact List.forall_mem_cons.mpr ⟨⟨show (21 : Nat) < 100 from by decide, nf0⟩, List.forall_mem_cons.mpr ⟨⟨show (21 : Nat) < 100 from by decide, nf1⟩, (fun _ h => (by cases h))⟩⟩
def o_La_sweep_2 : or_T := (95, 10, [(6, (0, 0, 0, [])), (8, (0, 0, 0, [])), (9, (0, 0, 72, []))], [], [], [], [(21, [6, 9], [72]), (21, [8, 9], [72])], [], [])
theorem oo_La_sweep_2 {kA : Nat → ClassId} : or_ok PRD kA GG o_La_sweep_2 := by
  refine or_mk fun A ta ws vs hD hth hl => ?_
  intro t6 k6 t8 k8 t9 k9
  have nf0 : fc_1 PRD (21, [6, 9], [72]) ws (vs) := by
    refine ⟨nf_in hl rfl, sgq_194 ?_⟩
    · show v_iv (n_v vs 6) + v_iv (n_v vs 9) ≤ 72
      omega
  have nf1 : fc_1 PRD (21, [8, 9], [72]) ws (vs) := by
    refine ⟨nf_in hl rfl, sgq_194 ?_⟩
    · show v_iv (n_v vs 8) + v_iv (n_v vs 9) ≤ 72
      omega
  refine ⟨(fun _ h => (by cases h)), [], trivial, ?_, (fun _ h => (by cases h))⟩
  rw [List.append_nil]
  exact List.forall_mem_cons.mpr ⟨⟨show (21 : Nat) < 100 from by decide, nf0⟩, List.forall_mem_cons.mpr ⟨⟨show (21 : Nat) < 100 from by decide, nf1⟩, (fun _ h => (by cases h))⟩⟩
def n_La_sweep_an : List an_T := [(7, [(0, (2, 0, 0, [4])), (1, (0, (Int.negSucc 2147483647), 2147483647, [])), (2, (0, 0, 10, []))], [], (0, 0), [(0, 0, 99993), (1, 2, 10), (0, 0, 100000), (0, 0, 0), (0, 0, 0)], [], [], [], 0, [], []), (21, [(0, (2, 0, 0, [4])), (1, (0, (Int.negSucc 2147483647), 2147483647, [])), (2, (0, 0, 9, [])), (3, (0, 1, 24, []))], [], (0, 0), [(0, 0, 99993), (1, 2, 10), (0, 0, 99979), (1, 3, 24), (0, 0, 100000)], [], [], [], 0, [], []), (53, [(0, (2, 0, 0, [4])), (1, (0, (Int.negSucc 2147483647), 2147483647, [])), (2, (0, 0, 9, [])), (3, (0, (Int.negSucc 1), 22, []))], [], (0, 0), [(0, 0, 99993), (1, 2, 10), (0, 0, 99947), (2, 3, (Int.negSucc 1)), (0, 0, 100000)], [], [], [], 0, [], []), (123, [(0, (2, 0, 0, [4])), (1, (0, (Int.negSucc 2147483647), 2147483647, [])), (2, (0, 0, 24, []))], [], (0, 0), [(0, 0, 99877), (1, 2, 24), (0, 0, 100000), (0, 0, 0), (0, 0, 0)], [], [], [], 0, [], [])]
def t_La_sweep_ct : ct_L := [(1, 233, e_La_countCrossings), (1, 236, e_La_sortLayer), (1, 239, e_La_setPlaces), (288, 219, e_acp_45), (357, 219, e_acp_46)]
set_option maxRecDepth 100000 in
theorem c_La_sweep {l : Launch} {D : va_G} {kA : Nat → ClassId} (h_La_countCrossings : ct_ok PRD l D kA GG y_La_countCrossings z_La_countCrossings e_La_countCrossings) (h_La_setPlaces : ct_ok PRD l D kA GG y_La_setPlaces z_La_setPlaces e_La_setPlaces) (h_La_sortLayer : ct_ok PRD l D kA GG y_La_sortLayer z_La_sortLayer e_La_sortLayer) : ct_ok PRD l D kA GG y_La_sweep z_La_sweep e_La_sweep := chk_all_ok (FT := [(22, 4, 2), (26, 4, 3), (51, 4, 11), (57, 4, 13)]) (PT := []) (CT := t_La_sweep_ct) (KT := []) (NT := []) (AN := n_La_sweep_an) (OT := [o_La_sweep_0, o_La_sweep_1, o_La_sweep_2]) 5 412 (List.forall_mem_cons.mpr ⟨oo_La_sweep_0, List.forall_mem_cons.mpr ⟨oo_La_sweep_1, List.forall_mem_cons.mpr ⟨oo_La_sweep_2, List.forall_mem_nil _⟩⟩⟩) (by decide +kernel) ⟨List.forall_mem_cons.mpr ⟨gf_La_22, List.forall_mem_cons.mpr ⟨gf_La_26, List.forall_mem_cons.mpr ⟨gf_La_51, List.forall_mem_cons.mpr ⟨gf_La_57, List.forall_mem_nil _⟩⟩⟩⟩, List.forall_mem_nil _, List.forall_mem_cons.mpr ⟨cl_virtual (y := y_La_countCrossings) (ci := 4) rfl rfl ⟨_, _, rfl⟩ (by decide +kernel) h_La_countCrossings wm_1432 wm_18 wm_1429 wm_1431 wv_5_14 ⟨by decide, by decide, by decide +kernel⟩ (by decide), List.forall_mem_cons.mpr ⟨cl_virtual (y := y_La_sortLayer) (ci := 4) rfl rfl ⟨_, _, rfl⟩ (by decide +kernel) h_La_sortLayer wm_1436 wm_18 wm_1433 wm_1435 wv_5_15 ⟨by decide, by decide, by decide +kernel⟩ (by decide), List.forall_mem_cons.mpr ⟨cl_virtual (y := y_La_setPlaces) (ci := 4) rfl rfl ⟨_, _, rfl⟩ (by decide +kernel) h_La_setPlaces wm_1440 wm_18 wm_1437 wm_1439 wv_6_0 ⟨by decide, by decide, by decide +kernel⟩ (by decide), List.forall_mem_cons.mpr ⟨cl_copy rfl rfl (by decide) (by decide) (by decide) wm_1387 wm_750 wm_749 wm_15, List.forall_mem_cons.mpr ⟨cl_copy rfl rfl (by decide) (by decide) (by decide) wm_1387 wm_750 wm_749 wm_15, List.forall_mem_nil _⟩⟩⟩⟩⟩, List.forall_mem_nil _, List.forall_mem_nil _, GG_pl⟩ (by decide +kernel)
def o_Ne_copyFrom_0 : or_T := (57, 10, [(2, (0, 0, 72, [])), (3, (0, 0, 72, [])), (5, (0, 0, 0, [])), (7, (0, 0, 0, [])), (8, (0, 2, 2, [])), (9, (0, 0, 144, []))], [(3, [9, 8, 3], []), (7, [2, 3], [3])], [], [], [(21, [5, 9], [144]), (21, [7, 9], [144])], [], [(2, 3, 0, 4294967296)])
theorem oo_Ne_copyFrom_0 {kA : Nat → ClassId} : or_ok PRD kA GG o_Ne_copyFrom_0 := by
  refine or_mk fun A ta ws vs hD hth hl => ?_
  intro t2 k2 t3 k3 t5 k5 t7 k7 t8 k8 t9 k9 d0 f0 f1
  replace f0 := shm_38 f0
  rw [show v_iv (n_v vs 8) = 2 from by omega] at f0
  replace f1 := shm_2 f1
  have nf0 : fc_1 PRD (21, [5, 9], [144]) ws (vs) := by
    refine ⟨nf_in hl rfl, sgq_195 ?_⟩
    · show v_iv (n_v vs 5) + v_iv (n_v vs 9) ≤ 144
      omega
  have nf1 : fc_1 PRD (21, [7, 9], [144]) ws (vs) := by
    refine ⟨nf_in hl rfl, sgq_195 ?_⟩
    · show v_iv (n_v vs 7) + v_iv (n_v vs 9) ≤ 144
      omega
  refine ⟨(fun _ h => (by cases h)), [], trivial, ?_, (fun _ h => (by cases h))⟩
  rw [List.append_nil]
  exact List.forall_mem_cons.mpr ⟨⟨show (21 : Nat) < 100 from by decide, nf0⟩, List.forall_mem_cons.mpr ⟨⟨show (21 : Nat) < 100 from by decide, nf1⟩, (fun _ h => (by cases h))⟩⟩
def o_Ne_copyFrom_1 : or_T := (74, 15, [(11, (0, 0, 0, [])), (13, (0, 0, 0, [])), (14, (0, 0, 24, []))], [], [], [], [(21, [11, 14], [25]), (21, [13, 14], [25])], [], [])
theorem oo_Ne_copyFrom_1 {kA : Nat → ClassId} : or_ok PRD kA GG o_Ne_copyFrom_1 := by
  refine or_mk fun A ta ws vs hD hth hl => ?_
  intro t11 k11 t13 k13 t14 k14
  have nf0 : fc_1 PRD (21, [11, 14], [25]) ws (vs) := by
    refine ⟨nf_in hl rfl, sgq_196 ?_⟩
    · show v_iv (n_v vs 11) + v_iv (n_v vs 14) ≤ 25
      omega
  have nf1 : fc_1 PRD (21, [13, 14], [25]) ws (vs) := by
    refine ⟨nf_in hl rfl, sgq_196 ?_⟩
    · show v_iv (n_v vs 13) + v_iv (n_v vs 14) ≤ 25
      omega
  refine ⟨(fun _ h => (by cases h)), [], trivial, ?_, (fun _ h => (by cases h))⟩
  rw [List.append_nil]
  exact List.forall_mem_cons.mpr ⟨⟨show (21 : Nat) < 100 from by decide, nf0⟩, List.forall_mem_cons.mpr ⟨⟨show (21 : Nat) < 100 from by decide, nf1⟩, (fun _ h => (by cases h))⟩⟩
def n_Ne_copyFrom_an : List an_T := [(10, [(0, (2, 0, 0, [294])), (1, (2, 0, 0, [5])), (2, (0, 0, 72, []))], [], (0, 0), [(0, 0, 99990), (1, 2, 72), (0, 0, 100000)], [], [], [], 0, [], [])]
def t_Ne_copyFrom_ct : ct_L := [(19, 73, e_Ne_begin_at_Nq), (97, 80, e_Ne_join_at_Nq_gx), (174, 100, e_acp_47), (174, 100, e_acp_49), (174, 100, e_acp_50), (174, 100, e_acp_51), (174, 100, e_acp_52), (174, 100, e_acp_53), (174, 100, e_acp_54), (174, 100, e_acp_55), (174, 100, e_acp_56), (174, 100, e_acp_57), (174, 100, e_acp_58), (174, 100, e_acp_59), (174, 100, e_acp_60), (174, 100, e_acp_61), (174, 100, e_acp_62), (174, 100, e_acp_63), (174, 100, e_acp_64), (174, 100, e_acp_65), (174, 100, e_acp_66), (174, 100, e_acp_67), (174, 100, e_acp_68), (225, 100, e_acp_48)]
set_option maxRecDepth 100000 in
theorem c_Ne_copyFrom {l : Launch} {D : va_G} {kA : Nat → ClassId} (h_Ne_begin_at_Nq : ct_ok PRD l D kA GG y_Ne_begin_at_Nq z_Ne_begin_at_Nq e_Ne_begin_at_Nq) (h_Ne_join_at_Nq_gx : ct_ok PRD l D kA GG y_Ne_join_at_Nq_gx z_Ne_join_at_Nq_gx e_Ne_join_at_Nq_gx) : ct_ok PRD l D kA GG y_Ne_copyFrom z_Ne_copyFrom e_Ne_copyFrom := chk_all_ok (FT := [(28, 5, 5), (31, 5, 6), (34, 5, 7), (37, 5, 8), (46, 5, 11), (49, 5, 12)]) (PT := []) (CT := t_Ne_copyFrom_ct) (KT := []) (NT := []) (AN := n_Ne_copyFrom_an) (OT := [o_Ne_copyFrom_0, o_Ne_copyFrom_1]) 3 200 (List.forall_mem_cons.mpr ⟨oo_Ne_copyFrom_0, List.forall_mem_cons.mpr ⟨oo_Ne_copyFrom_1, List.forall_mem_nil _⟩⟩) (by decide +kernel) ⟨List.forall_mem_cons.mpr ⟨gf_Ne_28, List.forall_mem_cons.mpr ⟨gf_Ne_31, List.forall_mem_cons.mpr ⟨gf_Ne_34, List.forall_mem_cons.mpr ⟨gf_Ne_37, List.forall_mem_cons.mpr ⟨gf_Ne_46, List.forall_mem_cons.mpr ⟨gf_Ne_49, List.forall_mem_nil _⟩⟩⟩⟩⟩⟩, List.forall_mem_nil _, List.forall_mem_cons.mpr ⟨cl_virtual (y := y_Ne_begin_at_Nq) (ci := 5) rfl rfl ⟨_, _, rfl⟩ (by decide +kernel) h_Ne_begin_at_Nq wm_1060 wm_6 wm_1057 wm_1058 wm_1059 ⟨by decide, by decide, by decide +kernel⟩ (by decide), List.forall_mem_cons.mpr ⟨cl_virtual (y := y_Ne_join_at_Nq_gx) (ci := 5) rfl rfl ⟨_, _, rfl⟩ (by decide +kernel) h_Ne_join_at_Nq_gx wm_1065 wm_6 wm_1062 wm_1063 wm_1064 ⟨by decide, by decide, by decide +kernel⟩ (by decide), List.forall_mem_cons.mpr ⟨cl_copy rfl rfl (by decide) (by decide) (by decide) wm_1513 wm_750 wm_749 wm_15, List.forall_mem_cons.mpr ⟨cl_copy rfl rfl (by decide) (by decide) (by decide) wm_1513 wm_750 wm_749 wm_15, List.forall_mem_cons.mpr ⟨cl_copy rfl rfl (by decide) (by decide) (by decide) wm_1513 wm_750 wm_749 wm_15, List.forall_mem_cons.mpr ⟨cl_copy rfl rfl (by decide) (by decide) (by decide) wm_1513 wm_750 wm_749 wm_15, List.forall_mem_cons.mpr ⟨cl_copy rfl rfl (by decide) (by decide) (by decide) wm_1513 wm_750 wm_749 wm_15, List.forall_mem_cons.mpr ⟨cl_copy rfl rfl (by decide) (by decide) (by decide) wm_1513 wm_750 wm_749 wm_15, List.forall_mem_cons.mpr ⟨cl_copy rfl rfl (by decide) (by decide) (by decide) wm_1513 wm_750 wm_749 wm_15, List.forall_mem_cons.mpr ⟨cl_copy rfl rfl (by decide) (by decide) (by decide) wm_1513 wm_750 wm_749 wm_15, List.forall_mem_cons.mpr ⟨cl_copy rfl rfl (by decide) (by decide) (by decide) wm_1513 wm_750 wm_749 wm_15, List.forall_mem_cons.mpr ⟨cl_copy rfl rfl (by decide) (by decide) (by decide) wm_1513 wm_750 wm_749 wm_15, List.forall_mem_cons.mpr ⟨cl_copy rfl rfl (by decide) (by decide) (by decide) wm_1513 wm_750 wm_749 wm_15, List.forall_mem_cons.mpr ⟨cl_copy rfl rfl (by decide) (by decide) (by decide) wm_1513 wm_750 wm_749 wm_15, List.forall_mem_cons.mpr ⟨cl_copy rfl rfl (by decide) (by decide) (by decide) wm_1513 wm_750 wm_749 wm_15, List.forall_mem_cons.mpr ⟨cl_copy rfl rfl (by decide) (by decide) (by decide) wm_1513 wm_750 wm_749 wm_15, List.forall_mem_cons.mpr ⟨cl_copy rfl rfl (by decide) (by decide) (by decide) wm_1513 wm_750 wm_749 wm_15, List.forall_mem_cons.mpr ⟨cl_copy rfl rfl (by decide) (by decide) (by decide) wm_1513 wm_750 wm_749 wm_15, List.forall_mem_cons.mpr ⟨cl_copy rfl rfl (by decide) (by decide) (by decide) wm_1513 wm_750 wm_749 wm_15, List.forall_mem_cons.mpr ⟨cl_copy rfl rfl (by decide) (by decide) (by decide) wm_1513 wm_750 wm_749 wm_15, List.forall_mem_cons.mpr ⟨cl_copy rfl rfl (by decide) (by decide) (by decide) wm_1513 wm_750 wm_749 wm_15, List.forall_mem_cons.mpr ⟨cl_copy rfl rfl (by decide) (by decide) (by decide) wm_1513 wm_750 wm_749 wm_15, List.forall_mem_cons.mpr ⟨cl_copy rfl rfl (by decide) (by decide) (by decide) wm_1513 wm_750 wm_749 wm_15, List.forall_mem_cons.mpr ⟨cl_copy rfl rfl (by decide) (by decide) (by decide) wm_1513 wm_750 wm_749 wm_15, List.forall_mem_nil _⟩⟩⟩⟩⟩⟩⟩⟩⟩⟩⟩⟩⟩⟩⟩⟩⟩⟩⟩⟩⟩⟩⟩⟩, List.forall_mem_nil _, List.forall_mem_nil _, GG_pl⟩ (by decide +kernel)
def n_Pl_findWorst_an : List an_T := [(57, [(0, (2, 0, 0, [6])), (1, (0, 0, 31, [])), (2, (0, 1, 32, [])), (3, (0, (Int.negSucc 2147483647), 2147483647, [])), (4, (0, (Int.negSucc 2147483647), 131071, [])), (5, (1, 1, 512, [])), (7, (1, 1, 512, [])), (9, (0, 0, 32, []))], [], (0, 0), [(0, 0, 99943), (1, 7, 32), (0, 0, 100000)], [], [], [], 0, [], [])]
def t_Pl_findWorst_ct : ct_L := [(42, 130, e_jMath_min1_v126), (51, 150, e_jMath_max1_v127), (108, 150, e_jMath_max1_v128), (117, 150, e_jMath_max1_v127), (285, 207, e_jMath_max2_v129), (312, 210, e_jMath_min2_v130)]
set_option maxRecDepth 100000 in
theorem c_Pl_findWorst {l : Launch} {D : va_G} {kA : Nat → ClassId} : ct_ok PRD l D kA GG y_Pl_findWorst z_Pl_findWorst e_Pl_findWorst := chk_all_ok (FT := [(45, 6, 10), (51, 6, 12), (54, 6, 13), (58, 6, 14)]) (PT := [(54, 6, 13, .long), (58, 6, 14, .long)]) (CT := t_Pl_findWorst_ct) (KT := []) (NT := []) (AN := n_Pl_findWorst_an) (OT := []) 3 336 (List.forall_mem_nil _) (by decide +kernel) ⟨List.forall_mem_cons.mpr ⟨gf_Pl_45, List.forall_mem_cons.mpr ⟨gf_Pl_51, List.forall_mem_cons.mpr ⟨gf_Pl_54, List.forall_mem_cons.mpr ⟨gf_Pl_58, List.forall_mem_nil _⟩⟩⟩⟩, List.forall_mem_cons.mpr ⟨pf_Pl_54, List.forall_mem_cons.mpr ⟨pf_Pl_58, List.forall_mem_nil _⟩⟩, List.forall_mem_cons.mpr ⟨cl_static (y := y_jMath_min1) c_jMath_min1_v126 wm_658 wm_10 wm_1716 wm_657 ⟨by decide, by decide, by decide +kernel⟩ (by decide), List.forall_mem_cons.mpr ⟨cl_static (y := y_jMath_max1) c_jMath_max1_v127 wm_836 wm_10 wm_1714 wm_835 ⟨by decide, by decide, by decide +kernel⟩ (by decide), List.forall_mem_cons.mpr ⟨cl_static (y := y_jMath_max1) c_jMath_max1_v128 wm_836 wm_10 wm_1714 wm_835 ⟨by decide, by decide, by decide +kernel⟩ (by decide), List.forall_mem_cons.mpr ⟨cl_static (y := y_jMath_max1) c_jMath_max1_v127 wm_836 wm_10 wm_1714 wm_835 ⟨by decide, by decide, by decide +kernel⟩ (by decide), List.forall_mem_cons.mpr ⟨cl_static (y := y_jMath_max2) c_jMath_max2_v129 wm_1750 wm_10 wm_1748 wm_1749 ⟨by decide, by decide, by decide +kernel⟩ (by decide), List.forall_mem_cons.mpr ⟨cl_static (y := y_jMath_min2) c_jMath_min2_v130 wm_1753 wm_10 wm_1751 wm_1752 ⟨by decide, by decide, by decide +kernel⟩ (by decide), List.forall_mem_nil _⟩⟩⟩⟩⟩⟩, List.forall_mem_nil _, List.forall_mem_nil _, GG_pl⟩ (by decide +kernel)
def o_Pl_tryRing_at_k1_0 : or_T := (48, 12, [(1, (0, 1, 1, [])), (6, (0, 8, 8, [])), (7, (0, 1, 1, [])), (9, (0, 0, 0, [])), (11, (0, 0, 0, []))], [(101, [0, 3], [8]), (7, [1, 7], [0]), (7, [1, 6], [5])], [], [], [(21, [9, 7], [24]), (21, [11, 7], [24])], [], [])
theorem oo_Pl_tryRing_at_k1_0 {kA : Nat → ClassId} : or_ok PRD kA GG o_Pl_tryRing_at_k1_0 := by
  refine or_mk fun A ta ws vs hD hth hl => ?_
  intro t1 k1 t6 k6 t7 k7 t9 k9 t11 k11 ta1 w1 le1 s1 f1 f2
  have s1 : (∀ b j, w_el ws b j = w_el w1 b j) ∧ ∀ b j, w_fd ws b j = if b = v_ad (n_v vs 0) ∧ j = 8 then n_v vs 3 else w_fd w1 b j := s1.2
  replace f1 := shm_37 f1
  replace f2 := shm_24 f2
  have nf0 : fc_1 PRD (21, [9, 7], [24]) ws (vs) := by
    refine ⟨nf_in hl rfl, sgq_152 ?_⟩
    · show v_iv (n_v vs 9) + v_iv (n_v vs 7) ≤ 24
      omega
  have nf1 : fc_1 PRD (21, [11, 7], [24]) ws (vs) := by
    refine ⟨nf_in hl rfl, sgq_152 ?_⟩
    · show v_iv (n_v vs 11) + v_iv (n_v vs 7) ≤ 24
      omega
  refine ⟨(fun _ h => (by cases h)), [], trivial, ?_, (fun _ h => (by cases h))⟩
  rw [List.append_nil]
  exact List.forall_mem_cons.mpr ⟨⟨show (21 : Nat) < 100 from by decide, nf0⟩, List.forall_mem_cons.mpr ⟨⟨show (21 : Nat) < 100 from by decide, nf1⟩, (fun _ h => (by cases h))⟩⟩
def n_Pl_tryRing_at_k1_an : List an_T := [(55, [(0, (2, 0, 0, [6])), (1, (0, 1, 1, [])), (2, (0, 1, 1, [])), (3, (0, 0, 0, [])), (4, (0, 1, 24, []))], [], (0, 0), [(0, 0, 99945), (1, 4, 24), (0, 0, 100000)], [], [((0, 0), (2, 0, 0, [3]))], [], 0, [], [])]
def t_Pl_tryRing_at_k1_ct : ct_L := [(1, 227, e_Pl_crossingsAt), (147, 175, e_acp_69), (325, 213, e_Pl_tryRing_at_k2)]
set_option maxRecDepth 100000 in
theorem c_Pl_tryRing_at_k1 {l : Launch} {D : va_G} {kA : Nat → ClassId} (h_Pl_crossingsAt : ct_ok PRD l D kA GG y_Pl_crossingsAt z_Pl_crossingsAt e_Pl_crossingsAt) (h_Pl_tryRing_at_k2 : ct_ok PRD l D kA GG y_Pl_tryRing_at_k2 z_Pl_tryRing_at_k2 e_Pl_tryRing_at_k2) : ct_ok PRD l D kA GG y_Pl_tryRing_at_k1 z_Pl_tryRing_at_k1 e_Pl_tryRing_at_k1 := chk_all_ok (FT := [(9, 6, 0), (19, 6, 2), (23, 6, 3), (38, 6, 8), (74, 3, 0)]) (PT := [(38, 6, 8, .int)]) (CT := t_Pl_tryRing_at_k1_ct) (KT := []) (NT := []) (AN := n_Pl_tryRing_at_k1_an) (OT := [o_Pl_tryRing_at_k1_0]) 3 264 (List.forall_mem_cons.mpr ⟨oo_Pl_tryRing_at_k1_0, List.forall_mem_nil _⟩) (by decide +kernel) ⟨List.forall_mem_cons.mpr ⟨gf_Pl_9, List.forall_mem_cons.mpr ⟨gf_Pl_19, List.forall_mem_cons.mpr ⟨gf_Pl_23, List.forall_mem_cons.mpr ⟨gf_Pl_38, List.forall_mem_cons.mpr ⟨gf_Pl_74, List.forall_mem_nil _⟩⟩⟩⟩⟩, List.forall_mem_cons.mpr ⟨pf_Pl_38, List.forall_mem_nil _⟩, List.forall_mem_cons.mpr ⟨cl_virtual (y := y_Pl_crossingsAt) (ci := 6) rfl rfl ⟨_, _, rfl⟩ (by decide +kernel) h_Pl_crossingsAt wm_1770 wm_21 wm_1767 wm_1769 wv_8_6 ⟨by decide, by decide, by decide +kernel⟩ (by decide), List.forall_mem_cons.mpr ⟨cl_copy rfl rfl (by decide) (by decide) (by decide) wm_1735 wm_750 wm_749 wm_15, List.forall_mem_cons.mpr ⟨cl_virtual (y := y_Pl_tryRing_at_k2) (ci := 6) rfl rfl ⟨_, _, rfl⟩ (by decide +kernel) h_Pl_tryRing_at_k2 wm_1766 wm_21 wm_1763 wm_1765 wv_8_5 ⟨by decide, by decide, by decide +kernel⟩ (by decide), List.forall_mem_nil _⟩⟩⟩, List.forall_mem_nil _, List.forall_mem_nil _, GG_pl⟩ (by decide +kernel)
def o_Pl_tryRing_at_k2_0 : or_T := (48, 12, [(1, (0, 2, 2, [])), (6, (0, 8, 8, [])), (7, (0, 2, 2, [])), (9, (0, 0, 0, [])), (11, (0, 0, 0, []))], [(101, [0, 3], [8]), (7, [1, 7], [0]), (7, [1, 6], [5])], [], [], [(21, [9, 7], [24]), (21, [11, 7], [24])], [], [])
theorem oo_Pl_tryRing_at_k2_0 {kA : Nat → ClassId} : or_ok PRD kA GG o_Pl_tryRing_at_k2_0 := by
  refine or_mk fun A ta ws vs hD hth hl => ?_
  intro t1 k1 t6 k6 t7 k7 t9 k9 t11 k11 ta1 w1 le1 s1 f1 f2
  have s1 : (∀ b j, w_el ws b j = w_el w1 b j) ∧ ∀ b j, w_fd ws b j = if b = v_ad (n_v vs 0) ∧ j = 8 then n_v vs 3 else w_fd w1 b j := s1.2
  replace f1 := shm_37 f1
  replace f2 := shm_24 f2
  have nf0 : fc_1 PRD (21, [9, 7], [24]) ws (vs) := by
    refine ⟨nf_in hl rfl, sgq_152 ?_⟩
    · show v_iv (n_v vs 9) + v_iv (n_v vs 7) ≤ 24
      omega
  have nf1 : fc_1 PRD (21, [11, 7], [24]) ws (vs) := by
    refine ⟨nf_in hl rfl, sgq_152 ?_⟩
    · show v_iv (n_v vs 11) + v_iv (n_v vs 7) ≤ 24
      omega
  refine ⟨(fun _ h => (by cases h)), [], trivial, ?_, (fun _ h => (by cases h))⟩
  rw [List.append_nil]
  exact List.forall_mem_cons.mpr ⟨⟨show (21 : Nat) < 100 from by decide, nf0⟩, List.forall_mem_cons.mpr ⟨⟨show (21 : Nat) < 100 from by decide, nf1⟩, (fun _ h => (by cases h))⟩⟩
def n_Pl_tryRing_at_k2_an : List an_T := [(55, [(0, (2, 0, 0, [6])), (1, (0, 2, 2, [])), (2, (0, 0, 16777215, [])), (3, (0, (Int.negSucc 2147483647), 2147483646, [])), (4, (0, 1, 24, []))], [], (0, 0), [(0, 0, 99945), (1, 4, 24), (0, 0, 100000)], [], [((0, 0), (2, 0, 0, [3]))], [], 0, [], [])]
def t_Pl_tryRing_at_k2_ct : ct_L := [(1, 227, e_Pl_crossingsAt), (147, 175, e_acp_70), (325, 213, e_Pl_tryRing_at_k3)]
set_option maxRecDepth 100000 in
theorem c_Pl_tryRing_at_k2 {l : Launch} {D : va_G} {kA : Nat → ClassId} (h_Pl_crossingsAt : ct_ok PRD l D kA GG y_Pl_crossingsAt z_Pl_crossingsAt e_Pl_crossingsAt) (h_Pl_tryRing_at_k3 : ct_ok PRD l D kA GG y_Pl_tryRing_at_k3 z_Pl_tryRing_at_k3 e_Pl_tryRing_at_k3) : ct_ok PRD l D kA GG y_Pl_tryRing_at_k2 z_Pl_tryRing_at_k2 e_Pl_tryRing_at_k2 := chk_all_ok (FT := [(9, 6, 0), (19, 6, 2), (23, 6, 3), (38, 6, 8), (74, 3, 0)]) (PT := [(38, 6, 8, .int)]) (CT := t_Pl_tryRing_at_k2_ct) (KT := []) (NT := []) (AN := n_Pl_tryRing_at_k2_an) (OT := [o_Pl_tryRing_at_k2_0]) 3 272 (List.forall_mem_cons.mpr ⟨oo_Pl_tryRing_at_k2_0, List.forall_mem_nil _⟩) (by decide +kernel) ⟨List.forall_mem_cons.mpr ⟨gf_Pl_9, List.forall_mem_cons.mpr ⟨gf_Pl_19, List.forall_mem_cons.mpr ⟨gf_Pl_23, List.forall_mem_cons.mpr ⟨gf_Pl_38, List.forall_mem_cons.mpr ⟨gf_Pl_74, List.forall_mem_nil _⟩⟩⟩⟩⟩, List.forall_mem_cons.mpr ⟨pf_Pl_38, List.forall_mem_nil _⟩, List.forall_mem_cons.mpr ⟨cl_virtual (y := y_Pl_crossingsAt) (ci := 6) rfl rfl ⟨_, _, rfl⟩ (by decide +kernel) h_Pl_crossingsAt wm_1770 wm_21 wm_1767 wm_1769 wv_8_6 ⟨by decide, by decide, by decide +kernel⟩ (by decide), List.forall_mem_cons.mpr ⟨cl_copy rfl rfl (by decide) (by decide) (by decide) wm_1735 wm_750 wm_749 wm_15, List.forall_mem_cons.mpr ⟨cl_virtual (y := y_Pl_tryRing_at_k3) (ci := 6) rfl rfl ⟨_, _, rfl⟩ (by decide +kernel) h_Pl_tryRing_at_k3 wm_1766 wm_21 wm_1763 wm_1765 wv_8_5 ⟨by decide, by decide, by decide +kernel⟩ (by decide), List.forall_mem_nil _⟩⟩⟩, List.forall_mem_nil _, List.forall_mem_nil _, GG_pl⟩ (by decide +kernel)
def o_Pl_tryRing_at_k3_0 : or_T := (48, 12, [(1, (0, 3, 3, [])), (6, (0, 8, 8, [])), (7, (0, 3, 3, [])), (9, (0, 0, 0, [])), (11, (0, 0, 0, []))], [(101, [0, 3], [8]), (7, [1, 7], [0]), (7, [1, 6], [5])], [], [], [(21, [9, 7], [24]), (21, [11, 7], [24])], [], [])
theorem oo_Pl_tryRing_at_k3_0 {kA : Nat → ClassId} : or_ok PRD kA GG o_Pl_tryRing_at_k3_0 := by
  refine or_mk fun A ta ws vs hD hth hl => ?_
  intro t1 k1 t6 k6 t7 k7 t9 k9 t11 k11 ta1 w1 le1 s1 f1 f2
  have s1 : (∀ b j, w_el ws b j = w_el w1 b j) ∧ ∀ b j, w_fd ws b j = if b = v_ad (n_v vs 0) ∧ j = 8 then n_v vs 3 else w_fd w1 b j := s1.2
  replace f1 := shm_37 f1
  replace f2 := shm_24 f2
  have nf0 : fc_1 PRD (21, [9, 7], [24]) ws (vs) := by
    refine ⟨nf_in hl rfl, sgq_152 ?_⟩
    · show v_iv (n_v vs 9) + v_iv (n_v vs 7) ≤ 24
      omega
  have nf1 : fc_1 PRD (21, [11, 7], [24]) ws (vs) := by
    refine ⟨nf_in hl rfl, sgq_152 ?_⟩
    · show v_iv (n_v vs 11) + v_iv (n_v vs 7) ≤ 24
      omega
  refine ⟨(fun _ h => (by cases h)), [], trivial, ?_, (fun _ h => (by cases h))⟩
  rw [List.append_nil]
  exact List.forall_mem_cons.mpr ⟨⟨show (21 : Nat) < 100 from by decide, nf0⟩, List.forall_mem_cons.mpr ⟨⟨show (21 : Nat) < 100 from by decide, nf1⟩, (fun _ h => (by cases h))⟩⟩
def n_Pl_tryRing_at_k3_an : List an_T := [(55, [(0, (2, 0, 0, [6])), (1, (0, 3, 3, [])), (2, (0, 0, 16777215, [])), (3, (0, (Int.negSucc 2147483647), 2147483646, [])), (4, (0, 1, 24, []))], [], (0, 0), [(0, 0, 99945), (1, 4, 24), (0, 0, 100000)], [], [((0, 0), (2, 0, 0, [3]))], [], 0, [], [])]
def t_Pl_tryRing_at_k3_ct : ct_L := [(1, 227, e_Pl_crossingsAt), (147, 175, e_acp_71), (325, 213, e_Pl_tryRing_at_k4)]
set_option maxRecDepth 100000 in
theorem c_Pl_tryRing_at_k3 {l : Launch} {D : va_G} {kA : Nat → ClassId} (h_Pl_crossingsAt : ct_ok PRD l D kA GG y_Pl_crossingsAt z_Pl_crossingsAt e_Pl_crossingsAt) (h_Pl_tryRing_at_k4 : ct_ok PRD l D kA GG y_Pl_tryRing_at_k4 z_Pl_tryRing_at_k4 e_Pl_tryRing_at_k4) : ct_ok PRD l D kA GG y_Pl_tryRing_at_k3 z_Pl_tryRing_at_k3 e_Pl_tryRing_at_k3 := chk_all_ok (FT := [(9, 6, 0), (19, 6, 2), (23, 6, 3), (38, 6, 8), (74, 3, 0)]) (PT := [(38, 6, 8, .int)]) (CT := t_Pl_tryRing_at_k3_ct) (KT := []) (NT := []) (AN := n_Pl_tryRing_at_k3_an) (OT := [o_Pl_tryRing_at_k3_0]) 3 272 (List.forall_mem_cons.mpr ⟨oo_Pl_tryRing_at_k3_0, List.forall_mem_nil _⟩) (by decide +kernel) ⟨List.forall_mem_cons.mpr ⟨gf_Pl_9, List.forall_mem_cons.mpr ⟨gf_Pl_19, List.forall_mem_cons.mpr ⟨gf_Pl_23, List.forall_mem_cons.mpr ⟨gf_Pl_38, List.forall_mem_cons.mpr ⟨gf_Pl_74, List.forall_mem_nil _⟩⟩⟩⟩⟩, List.forall_mem_cons.mpr ⟨pf_Pl_38, List.forall_mem_nil _⟩, List.forall_mem_cons.mpr ⟨cl_virtual (y := y_Pl_crossingsAt) (ci := 6) rfl rfl ⟨_, _, rfl⟩ (by decide +kernel) h_Pl_crossingsAt wm_1770 wm_21 wm_1767 wm_1769 wv_8_6 ⟨by decide, by decide, by decide +kernel⟩ (by decide), List.forall_mem_cons.mpr ⟨cl_copy rfl rfl (by decide) (by decide) (by decide) wm_1735 wm_750 wm_749 wm_15, List.forall_mem_cons.mpr ⟨cl_virtual (y := y_Pl_tryRing_at_k4) (ci := 6) rfl rfl ⟨_, _, rfl⟩ (by decide +kernel) h_Pl_tryRing_at_k4 wm_1766 wm_21 wm_1763 wm_1765 wv_8_5 ⟨by decide, by decide, by decide +kernel⟩ (by decide), List.forall_mem_nil _⟩⟩⟩, List.forall_mem_nil _, List.forall_mem_nil _, GG_pl⟩ (by decide +kernel)
def o_Pl_tryRing_at_k4_0 : or_T := (48, 12, [(1, (0, 4, 4, [])), (6, (0, 8, 8, [])), (7, (0, 4, 4, [])), (9, (0, 0, 0, [])), (11, (0, 0, 0, []))], [(101, [0, 3], [8]), (7, [1, 7], [0]), (7, [1, 6], [5])], [], [], [(21, [9, 7], [24]), (21, [11, 7], [24])], [], [])
theorem oo_Pl_tryRing_at_k4_0 {kA : Nat → ClassId} : or_ok PRD kA GG o_Pl_tryRing_at_k4_0 := by
  refine or_mk fun A ta ws vs hD hth hl => ?_
  intro t1 k1 t6 k6 t7 k7 t9 k9 t11 k11 ta1 w1 le1 s1 f1 f2
  have s1 : (∀ b j, w_el ws b j = w_el w1 b j) ∧ ∀ b j, w_fd ws b j = if b = v_ad (n_v vs 0) ∧ j = 8 then n_v vs 3 else w_fd w1 b j := s1.2
  replace f1 := shm_37 f1
  replace f2 := shm_24 f2
  have nf0 : fc_1 PRD (21, [9, 7], [24]) ws (vs) := by
    refine ⟨nf_in hl rfl, sgq_152 ?_⟩
    · show v_iv (n_v vs 9) + v_iv (n_v vs 7) ≤ 24
      omega
  have nf1 : fc_1 PRD (21, [11, 7], [24]) ws (vs) := by
    refine ⟨nf_in hl rfl, sgq_152 ?_⟩
    · show v_iv (n_v vs 11) + v_iv (n_v vs 7) ≤ 24
      omega
  refine ⟨(fun _ h => (by cases h)), [], trivial, ?_, (fun _ h => (by cases h))⟩
  rw [List.append_nil]
  exact List.forall_mem_cons.mpr ⟨⟨show (21 : Nat) < 100 from by decide, nf0⟩, List.forall_mem_cons.mpr ⟨⟨show (21 : Nat) < 100 from by decide, nf1⟩, (fun _ h => (by cases h))⟩⟩
def n_Pl_tryRing_at_k4_an : List an_T := [(55, [(0, (2, 0, 0, [6])), (1, (0, 4, 4, [])), (2, (0, 0, 16777215, [])), (3, (0, (Int.negSucc 2147483647), 2147483646, [])), (4, (0, 1, 24, []))], [], (0, 0), [(0, 0, 99945), (1, 4, 24), (0, 0, 100000)], [], [((0, 0), (2, 0, 0, [3]))], [], 0, [], [])]
def t_Pl_tryRing_at_k4_ct : ct_L := [(1, 227, e_Pl_crossingsAt), (147, 175, e_acp_72), (325, 213, e_Pl_tryRing_at_k5)]
set_option maxRecDepth 100000 in
theorem c_Pl_tryRing_at_k4 {l : Launch} {D : va_G} {kA : Nat → ClassId} (h_Pl_crossingsAt : ct_ok PRD l D kA GG y_Pl_crossingsAt z_Pl_crossingsAt e_Pl_crossingsAt) (h_Pl_tryRing_at_k5 : ct_ok PRD l D kA GG y_Pl_tryRing_at_k5 z_Pl_tryRing_at_k5 e_Pl_tryRing_at_k5) : ct_ok PRD l D kA GG y_Pl_tryRing_at_k4 z_Pl_tryRing_at_k4 e_Pl_tryRing_at_k4 := chk_all_ok (FT := [(9, 6, 0), (19, 6, 2), (23, 6, 3), (38, 6, 8), (74, 3, 0)]) (PT := [(38, 6, 8, .int)]) (CT := t_Pl_tryRing_at_k4_ct) (KT := []) (NT := []) (AN := n_Pl_tryRing_at_k4_an) (OT := [o_Pl_tryRing_at_k4_0]) 3 272 (List.forall_mem_cons.mpr ⟨oo_Pl_tryRing_at_k4_0, List.forall_mem_nil _⟩) (by decide +kernel) ⟨List.forall_mem_cons.mpr ⟨gf_Pl_9, List.forall_mem_cons.mpr ⟨gf_Pl_19, List.forall_mem_cons.mpr ⟨gf_Pl_23, List.forall_mem_cons.mpr ⟨gf_Pl_38, List.forall_mem_cons.mpr ⟨gf_Pl_74, List.forall_mem_nil _⟩⟩⟩⟩⟩, List.forall_mem_cons.mpr ⟨pf_Pl_38, List.forall_mem_nil _⟩, List.forall_mem_cons.mpr ⟨cl_virtual (y := y_Pl_crossingsAt) (ci := 6) rfl rfl ⟨_, _, rfl⟩ (by decide +kernel) h_Pl_crossingsAt wm_1770 wm_21 wm_1767 wm_1769 wv_8_6 ⟨by decide, by decide, by decide +kernel⟩ (by decide), List.forall_mem_cons.mpr ⟨cl_copy rfl rfl (by decide) (by decide) (by decide) wm_1735 wm_750 wm_749 wm_15, List.forall_mem_cons.mpr ⟨cl_virtual (y := y_Pl_tryRing_at_k5) (ci := 6) rfl rfl ⟨_, _, rfl⟩ (by decide +kernel) h_Pl_tryRing_at_k5 wm_1766 wm_21 wm_1763 wm_1765 wv_8_5 ⟨by decide, by decide, by decide +kernel⟩ (by decide), List.forall_mem_nil _⟩⟩⟩, List.forall_mem_nil _, List.forall_mem_nil _, GG_pl⟩ (by decide +kernel)
def o_Pl_tryRing_at_k5_0 : or_T := (48, 12, [(1, (0, 5, 5, [])), (6, (0, 8, 8, [])), (7, (0, 5, 5, [])), (9, (0, 0, 0, [])), (11, (0, 0, 0, []))], [(101, [0, 3], [8]), (7, [1, 7], [0]), (7, [1, 6], [5])], [], [], [(21, [9, 7], [24]), (21, [11, 7], [24])], [], [])
theorem oo_Pl_tryRing_at_k5_0 {kA : Nat → ClassId} : or_ok PRD kA GG o_Pl_tryRing_at_k5_0 := by
  refine or_mk fun A ta ws vs hD hth hl => ?_
  intro t1 k1 t6 k6 t7 k7 t9 k9 t11 k11 ta1 w1 le1 s1 f1 f2
  have s1 : (∀ b j, w_el ws b j = w_el w1 b j) ∧ ∀ b j, w_fd ws b j = if b = v_ad (n_v vs 0) ∧ j = 8 then n_v vs 3 else w_fd w1 b j := s1.2
  replace f1 := shm_37 f1
  replace f2 := shm_24 f2
  have nf0 : fc_1 PRD (21, [9, 7], [24]) ws (vs) := by
    refine ⟨nf_in hl rfl, sgq_152 ?_⟩
    · show v_iv (n_v vs 9) + v_iv (n_v vs 7) ≤ 24
      omega
  have nf1 : fc_1 PRD (21, [11, 7], [24]) ws (vs) := by
    refine ⟨nf_in hl rfl, sgq_152 ?_⟩
    · show v_iv (n_v vs 11) + v_iv (n_v vs 7) ≤ 24
      omega
  refine ⟨(fun _ h => (by cases h)), [], trivial, ?_, (fun _ h => (by cases h))⟩
  rw [List.append_nil]
  exact List.forall_mem_cons.mpr ⟨⟨show (21 : Nat) < 100 from by decide, nf0⟩, List.forall_mem_cons.mpr ⟨⟨show (21 : Nat) < 100 from by decide, nf1⟩, (fun _ h => (by cases h))⟩⟩
def n_Pl_tryRing_at_k5_an : List an_T := [(55, [(0, (2, 0, 0, [6])), (1, (0, 5, 5, [])), (2, (0, 0, 16777215, [])), (3, (0, (Int.negSucc 2147483647), 2147483646, [])), (4, (0, 1, 24, []))], [], (0, 0), [(0, 0, 99945), (1, 4, 24), (0, 0, 100000)], [], [((0, 0), (2, 0, 0, [3]))], [], 0, [], [])]
def t_Pl_tryRing_at_k5_ct : ct_L := [(1, 227, e_Pl_crossingsAt), (147, 175, e_acp_73), (325, 213, e_Pl_tryRing_at_k6)]
set_option maxRecDepth 100000 in
theorem c_Pl_tryRing_at_k5 {l : Launch} {D : va_G} {kA : Nat → ClassId} (h_Pl_crossingsAt : ct_ok PRD l D kA GG y_Pl_crossingsAt z_Pl_crossingsAt e_Pl_crossingsAt) (h_Pl_tryRing_at_k6 : ct_ok PRD l D kA GG y_Pl_tryRing_at_k6 z_Pl_tryRing_at_k6 e_Pl_tryRing_at_k6) : ct_ok PRD l D kA GG y_Pl_tryRing_at_k5 z_Pl_tryRing_at_k5 e_Pl_tryRing_at_k5 := chk_all_ok (FT := [(9, 6, 0), (19, 6, 2), (23, 6, 3), (38, 6, 8), (74, 3, 0)]) (PT := [(38, 6, 8, .int)]) (CT := t_Pl_tryRing_at_k5_ct) (KT := []) (NT := []) (AN := n_Pl_tryRing_at_k5_an) (OT := [o_Pl_tryRing_at_k5_0]) 3 272 (List.forall_mem_cons.mpr ⟨oo_Pl_tryRing_at_k5_0, List.forall_mem_nil _⟩) (by decide +kernel) ⟨List.forall_mem_cons.mpr ⟨gf_Pl_9, List.forall_mem_cons.mpr ⟨gf_Pl_19, List.forall_mem_cons.mpr ⟨gf_Pl_23, List.forall_mem_cons.mpr ⟨gf_Pl_38, List.forall_mem_cons.mpr ⟨gf_Pl_74, List.forall_mem_nil _⟩⟩⟩⟩⟩, List.forall_mem_cons.mpr ⟨pf_Pl_38, List.forall_mem_nil _⟩, List.forall_mem_cons.mpr ⟨cl_virtual (y := y_Pl_crossingsAt) (ci := 6) rfl rfl ⟨_, _, rfl⟩ (by decide +kernel) h_Pl_crossingsAt wm_1770 wm_21 wm_1767 wm_1769 wv_8_6 ⟨by decide, by decide, by decide +kernel⟩ (by decide), List.forall_mem_cons.mpr ⟨cl_copy rfl rfl (by decide) (by decide) (by decide) wm_1735 wm_750 wm_749 wm_15, List.forall_mem_cons.mpr ⟨cl_virtual (y := y_Pl_tryRing_at_k6) (ci := 6) rfl rfl ⟨_, _, rfl⟩ (by decide +kernel) h_Pl_tryRing_at_k6 wm_1766 wm_21 wm_1763 wm_1765 wv_8_5 ⟨by decide, by decide, by decide +kernel⟩ (by decide), List.forall_mem_nil _⟩⟩⟩, List.forall_mem_nil _, List.forall_mem_nil _, GG_pl⟩ (by decide +kernel)
def o_Pl_tryRing_at_k6_0 : or_T := (48, 12, [(1, (0, 6, 6, [])), (6, (0, 8, 8, [])), (7, (0, 6, 6, [])), (9, (0, 0, 0, [])), (11, (0, 0, 0, []))], [(101, [0, 3], [8]), (7, [1, 7], [0]), (7, [1, 6], [5])], [], [], [(21, [9, 7], [24]), (21, [11, 7], [24])], [], [])
theorem oo_Pl_tryRing_at_k6_0 {kA : Nat → ClassId} : or_ok PRD kA GG o_Pl_tryRing_at_k6_0 := by
  refine or_mk fun A ta ws vs hD hth hl => ?_
  intro t1 k1 t6 k6 t7 k7 t9 k9 t11 k11 ta1 w1 le1 s1 f1 f2
  have s1 : (∀ b j, w_el ws b j = w_el w1 b j) ∧ ∀ b j, w_fd ws b j = if b = v_ad (n_v vs 0) ∧ j = 8 then n_v vs 3 else w_fd w1 b j := s1.2
  replace f1 := shm_37 f1
  replace f2 := shm_24 f2
  have nf0 : fc_1 PRD (21, [9, 7], [24]) ws (vs) := by
    refine ⟨nf_in hl rfl, sgq_152 ?_⟩
    · show v_iv (n_v vs 9) + v_iv (n_v vs 7) ≤ 24
      omega
  have nf1 : fc_1 PRD (21, [11, 7], [24]) ws (vs) := by
    refine ⟨nf_in hl rfl, sgq_152 ?_⟩
    · show v_iv (n_v vs 11) + v_iv (n_v vs 7) ≤ 24
      omega
  refine ⟨(fun _ h => (by cases h)), [], trivial, ?_, (fun _ h => (by cases h))⟩
  rw [List.append_nil]
  exact List.forall_mem_cons.mpr ⟨⟨show (21 : Nat) < 100 from by decide, nf0⟩, List.forall_mem_cons.mpr ⟨⟨show (21 : Nat) < 100 from by decide, nf1⟩, (fun _ h => (by cases h))⟩⟩
def n_Pl_tryRing_at_k6_an : List an_T := [(55, [(0, (2, 0, 0, [6])), (1, (0, 6, 6, [])), (2, (0, 0, 16777215, [])), (3, (0, (Int.negSucc 2147483647), 2147483646, [])), (4, (0, 1, 24, []))], [], (0, 0), [(0, 0, 99945), (1, 4, 24), (0, 0, 100000)], [], [((0, 0), (2, 0, 0, [3]))], [], 0, [], [])]
def t_Pl_tryRing_at_k6_ct : ct_L := [(1, 227, e_Pl_crossingsAt), (147, 175, e_acp_74), (325, 213, e_Pl_tryRing_at_k7)]
set_option maxRecDepth 100000 in
theorem c_Pl_tryRing_at_k6 {l : Launch} {D : va_G} {kA : Nat → ClassId} (h_Pl_crossingsAt : ct_ok PRD l D kA GG y_Pl_crossingsAt z_Pl_crossingsAt e_Pl_crossingsAt) (h_Pl_tryRing_at_k7 : ct_ok PRD l D kA GG y_Pl_tryRing_at_k7 z_Pl_tryRing_at_k7 e_Pl_tryRing_at_k7) : ct_ok PRD l D kA GG y_Pl_tryRing_at_k6 z_Pl_tryRing_at_k6 e_Pl_tryRing_at_k6 := chk_all_ok (FT := [(9, 6, 0), (19, 6, 2), (23, 6, 3), (38, 6, 8), (74, 3, 0)]) (PT := [(38, 6, 8, .int)]) (CT := t_Pl_tryRing_at_k6_ct) (KT := []) (NT := []) (AN := n_Pl_tryRing_at_k6_an) (OT := [o_Pl_tryRing_at_k6_0]) 3 272 (List.forall_mem_cons.mpr ⟨oo_Pl_tryRing_at_k6_0, List.forall_mem_nil _⟩) (by decide +kernel) ⟨List.forall_mem_cons.mpr ⟨gf_Pl_9, List.forall_mem_cons.mpr ⟨gf_Pl_19, List.forall_mem_cons.mpr ⟨gf_Pl_23, List.forall_mem_cons.mpr ⟨gf_Pl_38, List.forall_mem_cons.mpr ⟨gf_Pl_74, List.forall_mem_nil _⟩⟩⟩⟩⟩, List.forall_mem_cons.mpr ⟨pf_Pl_38, List.forall_mem_nil _⟩, List.forall_mem_cons.mpr ⟨cl_virtual (y := y_Pl_crossingsAt) (ci := 6) rfl rfl ⟨_, _, rfl⟩ (by decide +kernel) h_Pl_crossingsAt wm_1770 wm_21 wm_1767 wm_1769 wv_8_6 ⟨by decide, by decide, by decide +kernel⟩ (by decide), List.forall_mem_cons.mpr ⟨cl_copy rfl rfl (by decide) (by decide) (by decide) wm_1735 wm_750 wm_749 wm_15, List.forall_mem_cons.mpr ⟨cl_virtual (y := y_Pl_tryRing_at_k7) (ci := 6) rfl rfl ⟨_, _, rfl⟩ (by decide +kernel) h_Pl_tryRing_at_k7 wm_1766 wm_21 wm_1763 wm_1765 wv_8_5 ⟨by decide, by decide, by decide +kernel⟩ (by decide), List.forall_mem_nil _⟩⟩⟩, List.forall_mem_nil _, List.forall_mem_nil _, GG_pl⟩ (by decide +kernel)
def o_Pl_tryRing_at_k7_0 : or_T := (48, 12, [(1, (0, 7, 7, [])), (6, (0, 8, 8, [])), (7, (0, 7, 7, [])), (9, (0, 0, 0, [])), (11, (0, 0, 0, []))], [(101, [0, 3], [8]), (7, [1, 7], [0]), (7, [1, 6], [5])], [], [], [(21, [9, 7], [24]), (21, [11, 7], [24])], [], [])
theorem oo_Pl_tryRing_at_k7_0 {kA : Nat → ClassId} : or_ok PRD kA GG o_Pl_tryRing_at_k7_0 := by
  refine or_mk fun A ta ws vs hD hth hl => ?_
  intro t1 k1 t6 k6 t7 k7 t9 k9 t11 k11 ta1 w1 le1 s1 f1 f2
  have s1 : (∀ b j, w_el ws b j = w_el w1 b j) ∧ ∀ b j, w_fd ws b j = if b = v_ad (n_v vs 0) ∧ j = 8 then n_v vs 3 else w_fd w1 b j := s1.2
  replace f1 := shm_37 f1
  replace f2 := shm_24 f2
  have nf0 : fc_1 PRD (21, [9, 7], [24]) ws (vs) := by
    refine ⟨nf_in hl rfl, sgq_152 ?_⟩
    · show v_iv (n_v vs 9) + v_iv (n_v vs 7) ≤ 24
      omega
  have nf1 : fc_1 PRD (21, [11, 7], [24]) ws (vs) := by
    refine ⟨nf_in hl rfl, sgq_152 ?_⟩
    · show v_iv (n_v vs 11) + v_iv (n_v vs 7) ≤ 24
      omega
  refine ⟨(fun _ h => (by cases h)), [], trivial, ?_, (fun _ h => (by cases h))⟩
  rw [List.append_nil]
  exact List.forall_mem_cons.mpr ⟨⟨show (21 : Nat) < 100 from by decide, nf0⟩, List.forall_mem_cons.mpr ⟨⟨show (21 : Nat) < 100 from by decide, nf1⟩, (fun _ h => (by cases h))⟩⟩
def n_Pl_tryRing_at_k7_an : List an_T := [(55, [(0, (2, 0, 0, [6])), (1, (0, 7, 7, [])), (2, (0, 0, 16777215, [])), (3, (0, (Int.negSucc 2147483647), 2147483646, [])), (4, (0, 1, 24, []))], [], (0, 0), [(0, 0, 99945), (1, 4, 24), (0, 0, 100000)], [], [((0, 0), (2, 0, 0, [3]))], [], 0, [], [])]
def t_Pl_tryRing_at_k7_ct : ct_L := [(1, 227, e_Pl_crossingsAt), (147, 175, e_acp_75), (325, 213, e_Pl_tryRing_at_k8)]
set_option maxRecDepth 100000 in
theorem c_Pl_tryRing_at_k7 {l : Launch} {D : va_G} {kA : Nat → ClassId} (h_Pl_crossingsAt : ct_ok PRD l D kA GG y_Pl_crossingsAt z_Pl_crossingsAt e_Pl_crossingsAt) (h_Pl_tryRing_at_k8 : ct_ok PRD l D kA GG y_Pl_tryRing_at_k8 z_Pl_tryRing_at_k8 e_Pl_tryRing_at_k8) : ct_ok PRD l D kA GG y_Pl_tryRing_at_k7 z_Pl_tryRing_at_k7 e_Pl_tryRing_at_k7 := chk_all_ok (FT := [(9, 6, 0), (19, 6, 2), (23, 6, 3), (38, 6, 8), (74, 3, 0)]) (PT := [(38, 6, 8, .int)]) (CT := t_Pl_tryRing_at_k7_ct) (KT := []) (NT := []) (AN := n_Pl_tryRing_at_k7_an) (OT := [o_Pl_tryRing_at_k7_0]) 3 272 (List.forall_mem_cons.mpr ⟨oo_Pl_tryRing_at_k7_0, List.forall_mem_nil _⟩) (by decide +kernel) ⟨List.forall_mem_cons.mpr ⟨gf_Pl_9, List.forall_mem_cons.mpr ⟨gf_Pl_19, List.forall_mem_cons.mpr ⟨gf_Pl_23, List.forall_mem_cons.mpr ⟨gf_Pl_38, List.forall_mem_cons.mpr ⟨gf_Pl_74, List.forall_mem_nil _⟩⟩⟩⟩⟩, List.forall_mem_cons.mpr ⟨pf_Pl_38, List.forall_mem_nil _⟩, List.forall_mem_cons.mpr ⟨cl_virtual (y := y_Pl_crossingsAt) (ci := 6) rfl rfl ⟨_, _, rfl⟩ (by decide +kernel) h_Pl_crossingsAt wm_1770 wm_21 wm_1767 wm_1769 wv_8_6 ⟨by decide, by decide, by decide +kernel⟩ (by decide), List.forall_mem_cons.mpr ⟨cl_copy rfl rfl (by decide) (by decide) (by decide) wm_1735 wm_750 wm_749 wm_15, List.forall_mem_cons.mpr ⟨cl_virtual (y := y_Pl_tryRing_at_k8) (ci := 6) rfl rfl ⟨_, _, rfl⟩ (by decide +kernel) h_Pl_tryRing_at_k8 wm_1766 wm_21 wm_1763 wm_1765 wv_8_5 ⟨by decide, by decide, by decide +kernel⟩ (by decide), List.forall_mem_nil _⟩⟩⟩, List.forall_mem_nil _, List.forall_mem_nil _, GG_pl⟩ (by decide +kernel)
def o_Pl_tryRing_at_k8_0 : or_T := (48, 12, [(1, (0, 8, 8, [])), (6, (0, 8, 8, [])), (7, (0, 8, 8, [])), (9, (0, 0, 0, [])), (11, (0, 0, 0, []))], [(101, [0, 3], [8]), (7, [1, 7], [0]), (7, [1, 6], [5])], [], [], [(21, [9, 7], [24]), (21, [11, 7], [24])], [], [])
theorem oo_Pl_tryRing_at_k8_0 {kA : Nat → ClassId} : or_ok PRD kA GG o_Pl_tryRing_at_k8_0 := by
  refine or_mk fun A ta ws vs hD hth hl => ?_
  intro t1 k1 t6 k6 t7 k7 t9 k9 t11 k11 ta1 w1 le1 s1 f1 f2
  have s1 : (∀ b j, w_el ws b j = w_el w1 b j) ∧ ∀ b j, w_fd ws b j = if b = v_ad (n_v vs 0) ∧ j = 8 then n_v vs 3 else w_fd w1 b j := s1.2
  replace f1 := shm_37 f1
  replace f2 := shm_24 f2
  have nf0 : fc_1 PRD (21, [9, 7], [24]) ws (vs) := by
    refine ⟨nf_in hl rfl, sgq_152 ?_⟩
    · show v_iv (n_v vs 9) + v_iv (n_v vs 7) ≤ 24
      omega
  have nf1 : fc_1 PRD (21, [11, 7], [24]) ws (vs) := by
    refine ⟨nf_in hl rfl, sgq_152 ?_⟩
    · show v_iv (n_v vs 11) + v_iv (n_v vs 7) ≤ 24
      omega
  refine ⟨(fun _ h => (by cases h)), [], trivial, ?_, (fun _ h => (by cases h))⟩
  rw [List.append_nil]
  exact List.forall_mem_cons.mpr ⟨⟨show (21 : Nat) < 100 from by decide, nf0⟩, List.forall_mem_cons.mpr ⟨⟨show (21 : Nat) < 100 from by decide, nf1⟩, (fun _ h => (by cases h))⟩⟩
def n_Pl_tryRing_at_k8_an : List an_T := [(55, [(0, (2, 0, 0, [6])), (1, (0, 8, 8, [])), (2, (0, 0, 16777215, [])), (3, (0, (Int.negSucc 2147483647), 2147483646, [])), (4, (0, 1, 24, []))], [], (0, 0), [(0, 0, 99945), (1, 4, 24), (0, 0, 100000)], [], [((0, 0), (2, 0, 0, [3]))], [], 0, [], [])]
def t_Pl_tryRing_at_k8_ct : ct_L := [(1, 227, e_Pl_crossingsAt), (147, 175, e_acp_76), (325, 213, e_Pl_tryRing_at_k9)]
set_option maxRecDepth 100000 in
theorem c_Pl_tryRing_at_k8 {l : Launch} {D : va_G} {kA : Nat → ClassId} (h_Pl_crossingsAt : ct_ok PRD l D kA GG y_Pl_crossingsAt z_Pl_crossingsAt e_Pl_crossingsAt) (h_Pl_tryRing_at_k9 : ct_ok PRD l D kA GG y_Pl_tryRing_at_k9 z_Pl_tryRing_at_k9 e_Pl_tryRing_at_k9) : ct_ok PRD l D kA GG y_Pl_tryRing_at_k8 z_Pl_tryRing_at_k8 e_Pl_tryRing_at_k8 := chk_all_ok (FT := [(9, 6, 0), (19, 6, 2), (23, 6, 3), (38, 6, 8), (74, 3, 0)]) (PT := [(38, 6, 8, .int)]) (CT := t_Pl_tryRing_at_k8_ct) (KT := []) (NT := []) (AN := n_Pl_tryRing_at_k8_an) (OT := [o_Pl_tryRing_at_k8_0]) 3 272 (List.forall_mem_cons.mpr ⟨oo_Pl_tryRing_at_k8_0, List.forall_mem_nil _⟩) (by decide +kernel) ⟨List.forall_mem_cons.mpr ⟨gf_Pl_9, List.forall_mem_cons.mpr ⟨gf_Pl_19, List.forall_mem_cons.mpr ⟨gf_Pl_23, List.forall_mem_cons.mpr ⟨gf_Pl_38, List.forall_mem_cons.mpr ⟨gf_Pl_74, List.forall_mem_nil _⟩⟩⟩⟩⟩, List.forall_mem_cons.mpr ⟨pf_Pl_38, List.forall_mem_nil _⟩, List.forall_mem_cons.mpr ⟨cl_virtual (y := y_Pl_crossingsAt) (ci := 6) rfl rfl ⟨_, _, rfl⟩ (by decide +kernel) h_Pl_crossingsAt wm_1770 wm_21 wm_1767 wm_1769 wv_8_6 ⟨by decide, by decide, by decide +kernel⟩ (by decide), List.forall_mem_cons.mpr ⟨cl_copy rfl rfl (by decide) (by decide) (by decide) wm_1735 wm_750 wm_749 wm_15, List.forall_mem_cons.mpr ⟨cl_virtual (y := y_Pl_tryRing_at_k9) (ci := 6) rfl rfl ⟨_, _, rfl⟩ (by decide +kernel) h_Pl_tryRing_at_k9 wm_1766 wm_21 wm_1763 wm_1765 wv_8_5 ⟨by decide, by decide, by decide +kernel⟩ (by decide), List.forall_mem_nil _⟩⟩⟩, List.forall_mem_nil _, List.forall_mem_nil _, GG_pl⟩ (by decide +kernel)
def o_Pl_tryRing_at_k9_0 : or_T := (1000000, 0, [], [], [], [], [], [], [])
theorem oo_Pl_tryRing_at_k9_0 {kA : Nat → ClassId} : or_ok PRD kA GG o_Pl_tryRing_at_k9_0 := fun _ _ _ _ _ _ _ _ _ _ => ⟨fun q h => (by cases h), [], trivial, fun f h => (by cases h), fun q h => (by cases h)⟩
def n_Pl_tryRing_at_k9_an : List an_T := []
def t_Pl_tryRing_at_k9_ct : ct_L := []
set_option maxRecDepth 100000 in
theorem c_Pl_tryRing_at_k9 {l : Launch} {D : va_G} {kA : Nat → ClassId} : ct_ok PRD l D kA GG y_Pl_tryRing_at_k9 z_Pl_tryRing_at_k9 e_Pl_tryRing_at_k9 := chk_all_ok (FT := [(9, 6, 0), (19, 6, 2), (23, 6, 3), (38, 6, 8), (74, 3, 0)]) (PT := [(38, 6, 8, .int)]) (CT := t_Pl_tryRing_at_k9_ct) (KT := []) (NT := []) (AN := n_Pl_tryRing_at_k9_an) (OT := [o_Pl_tryRing_at_k9_0]) 0 200 (List.forall_mem_cons.mpr ⟨oo_Pl_tryRing_at_k9_0, List.forall_mem_nil _⟩) (by decide +kernel) ⟨List.forall_mem_cons.mpr ⟨gf_Pl_9, List.forall_mem_cons.mpr ⟨gf_Pl_19, List.forall_mem_cons.mpr ⟨gf_Pl_23, List.forall_mem_cons.mpr ⟨gf_Pl_38, List.forall_mem_cons.mpr ⟨gf_Pl_74, List.forall_mem_nil _⟩⟩⟩⟩⟩, List.forall_mem_cons.mpr ⟨pf_Pl_38, List.forall_mem_nil _⟩, List.forall_mem_nil _, List.forall_mem_nil _, List.forall_mem_nil _, GG_pl⟩ (by decide +kernel)
def n_Pn_openLine_an : List an_T := [(45, [(0, (2, 0, 0, [7])), (1, (0, 1, 22, [])), (2, (0, 0, 16777215, [])), (3, (0, 0, 23, [])), (4, (0, 0, 23, [])), (5, (0, 0, 23, [])), (6, (0, (Int.negSucc 0), 71, [])), (7, (0, 0, 24, [])), (8, (0, 0, 72, []))], [], (0, 0), [(0, 0, 99955), (1, 8, 72), (0, 0, 100000)], [], [], [], 0, [], []), (115, [(0, (2, 0, 0, [7])), (1, (0, 1, 22, [])), (2, (0, 0, 16777215, [])), (3, (0, 0, 23, [])), (4, (0, 0, 23, [])), (5, (0, 0, 23, [])), (6, (0, 0, 71, [])), (7, (0, 0, 24, [])), (8, (0, 0, 71, []))], [(0, 0, 23, [])], (0, 0), [(0, 0, 99955), (1, 8, 72), (0, 0, 99885)], [], [], [], 0, [], []), (155, [(0, (2, 0, 0, [7])), (1, (0, 1, 22, [])), (2, (0, 0, 16777215, [])), (3, (0, 0, 23, [])), (4, (0, 0, 23, [])), (5, (0, 0, 23, [])), (6, (0, 0, 71, [])), (7, (0, 0, 24, [])), (8, (0, 0, 71, [])), (9, (0, 0, 23, []))], [], (0, 0), [(0, 0, 99955), (1, 8, 72), (0, 0, 99845)], [], [], [], 0, [], []), (161, [(0, (2, 0, 0, [7])), (1, (0, 1, 22, [])), (2, (0, 0, 16777215, [])), (3, (0, 0, 23, [])), (4, (0, 0, 23, [])), (5, (0, 0, 23, [])), (6, (0, (Int.negSucc 0), 71, [])), (7, (0, 0, 24, [])), (8, (0, 0, 72, []))], [], (0, 0), [(0, 0, 99839), (0, 0, 0), (0, 0, 0)], [], [], [], 0, [], [])]
def t_Pn_openLine_ct : ct_L := [(106, 134, e_Ne_edgeBetween_np), (220, 159, e_Ne_endAt_np), (502, 168, e_Pn_replaceInLine_at_gx)]
set_option maxRecDepth 100000 in
theorem c_Pn_openLine {l : Launch} {D : va_G} {kA : Nat → ClassId} (h_Ne_edgeBetween : ct_ok PRD l D kA GG y_Ne_edgeBetween z_Ne_edgeBetween e_Ne_edgeBetween) (h_Ne_endAt : ct_ok PRD l D kA GG y_Ne_endAt z_Ne_endAt e_Ne_endAt) (h_Pn_replaceInLine_at_gx : ct_ok PRD l D kA GG y_Pn_replaceInLine_at_gx z_Pn_replaceInLine_at_gx e_Pn_replaceInLine_at_gx) : ct_ok PRD l D kA GG y_Pn_openLine z_Pn_openLine e_Pn_openLine := chk_all_ok (FT := [(12, 7, 0), (22, 7, 2), (35, 7, 6), (156, 5, 11), (162, 5, 7), (165, 5, 8)]) (PT := []) (CT := t_Pn_openLine_ct) (KT := []) (NT := []) (AN := n_Pn_openLine_an) (OT := []) 3 364 (List.forall_mem_nil _) (by decide +kernel) ⟨List.forall_mem_cons.mpr ⟨gf_Pn_12, List.forall_mem_cons.mpr ⟨gf_Pn_22, List.forall_mem_cons.mpr ⟨gf_Pn_35, List.forall_mem_cons.mpr ⟨gf_Pn_156, List.forall_mem_cons.mpr ⟨gf_Pn_162, List.forall_mem_cons.mpr ⟨gf_Pn_165, List.forall_mem_nil _⟩⟩⟩⟩⟩⟩, List.forall_mem_nil _, List.forall_mem_cons.mpr ⟨cl_nopa (cl_virtual (y := y_Ne_edgeBetween) (ci := 5) rfl rfl ⟨_, _, rfl⟩ (by decide +kernel) h_Ne_edgeBetween wm_1089 wm_6 wm_1544 wm_1087 wm_1088 ⟨by decide, by decide, by decide +kernel⟩ (by decide)), List.forall_mem_cons.mpr ⟨cl_nopa (cl_virtual (y := y_Ne_endAt) (ci := 5) rfl rfl ⟨_, _, rfl⟩ (by decide +kernel) h_Ne_endAt wm_1138 wm_6 wm_1560 wm_1136 wm_1137 ⟨by decide, by decide, by decide +kernel⟩ (by decide)), List.forall_mem_cons.mpr ⟨cl_virtual (y := y_Pn_replaceInLine_at_gx) (ci := 7) rfl rfl ⟨_, _, rfl⟩ (by decide +kernel) h_Pn_replaceInLine_at_gx wm_1564 wm_20 wm_1561 wm_1563 wv_6_12 ⟨by decide, by decide, by decide +kernel⟩ (by decide), List.forall_mem_nil _⟩⟩⟩, List.forall_mem_nil _, List.forall_mem_nil _, GG_pl⟩ (by decide +kernel)
def n_Sy_run_an : List an_T := []
def t_Sy_run_ct : ct_L := [(0, 270, e_Sy_join), (1, 251, e_Sy_pop), (1, 266, e_Sy_push)]
set_option maxRecDepth 100000 in
theorem c_Sy_run {l : Launch} {D : va_G} {kA : Nat → ClassId} (h_Sy_join : ct_ok PRD l D kA GG y_Sy_join z_Sy_join e_Sy_join) (h_Sy_pop : ct_ok PRD l D kA GG y_Sy_pop z_Sy_pop e_Sy_pop) (h_Sy_push : ct_ok PRD l D kA GG y_Sy_push z_Sy_push e_Sy_push) : ct_ok PRD l D kA GG y_Sy_run z_Sy_run e_Sy_run := chk_all_ok (FT := [(66, 11, 16)]) (PT := []) (CT := t_Sy_run_ct) (KT := []) (NT := []) (AN := n_Sy_run_an) (OT := []) 0 228 (List.forall_mem_nil _) (by decide +kernel) ⟨List.forall_mem_cons.mpr ⟨gf_Sy_66, List.forall_mem_nil _⟩, List.forall_mem_nil _, List.forall_mem_cons.mpr ⟨cl_static (y := y_Sy_join) h_Sy_join wm_2315 wm_23 wm_2313 wm_2314 ⟨by decide, by decide, by decide +kernel⟩ (by decide), List.forall_mem_cons.mpr ⟨cl_virtual (y := y_Sy_pop) (ci := 11) rfl rfl ⟨_, _, rfl⟩ (by decide +kernel) h_Sy_pop wm_2301 wm_23 wm_2298 wm_2300 wv_11_10 ⟨by decide, by decide, by decide +kernel⟩ (by decide), List.forall_mem_cons.mpr ⟨cl_virtual (y := y_Sy_push) (ci := 11) rfl rfl ⟨_, _, rfl⟩ (by decide +kernel) h_Sy_push wm_2312 wm_23 wm_2309 wm_2311 wv_11_12 ⟨by decide, by decide, by decide +kernel⟩ (by decide), List.forall_mem_nil _⟩⟩⟩, List.forall_mem_nil _, List.forall_mem_nil _, GG_pl⟩ (by decide +kernel)
def n_Mo_isInBox_an : List an_T := []
def t_Mo_isInBox_ct : ct_L := [(0, 387, e_Mo_in), (1, 478, e_Mo_longOf), (1, 1023, e_Mo_px), (1, 1029, e_Mo_py)]
set_option maxRecDepth 100000 in
theorem c_Mo_isInBox {l : Launch} {D : va_G} {kA : Nat → ClassId} (h_Mo_in : ct_ok PRD l D kA GG y_Mo_in z_Mo_in e_Mo_in) (h_Mo_longOf : ct_ok PRD l D kA GG y_Mo_longOf z_Mo_longOf e_Mo_longOf) (h_Mo_px : ct_ok PRD l D kA GG y_Mo_px z_Mo_px e_Mo_px) (h_Mo_py : ct_ok PRD l D kA GG y_Mo_py z_Mo_py e_Mo_py) : ct_ok PRD l D kA GG y_Mo_isInBox z_Mo_isInBox e_Mo_isInBox := chk_all_ok (FT := []) (PT := []) (CT := t_Mo_isInBox_ct) (KT := []) (NT := []) (AN := n_Mo_isInBox_an) (OT := []) 0 200 (List.forall_mem_nil _) (by decide +kernel) ⟨List.forall_mem_nil _, List.forall_mem_nil _, List.forall_mem_cons.mpr ⟨cl_static (y := y_Mo_in) h_Mo_in wm_2971 wm_9 wm_2969 wm_2970 ⟨by decide, by decide, by decide +kernel⟩ (by decide), List.forall_mem_cons.mpr ⟨cl_virtual (y := y_Mo_longOf) (ci := 13) rfl rfl ⟨_, _, rfl⟩ (by decide +kernel) h_Mo_longOf wm_3029 wm_9 wm_3026 wm_3028 wv_13_4 ⟨by decide, by decide, by decide +kernel⟩ (by decide), List.forall_mem_cons.mpr ⟨cl_virtual (y := y_Mo_px) (ci := 13) rfl rfl ⟨_, _, rfl⟩ (by decide +kernel) h_Mo_px wm_3675 wm_9 wm_3672 wm_3674 wv_21_14 ⟨by decide, by decide, by decide +kernel⟩ (by decide), List.forall_mem_cons.mpr ⟨cl_virtual (y := y_Mo_py) (ci := 13) rfl rfl ⟨_, _, rfl⟩ (by decide +kernel) h_Mo_py wm_3679 wm_9 wm_3676 wm_3678 wv_21_15 ⟨by decide, by decide, by decide +kernel⟩ (by decide), List.forall_mem_nil _⟩⟩⟩⟩, List.forall_mem_nil _, List.forall_mem_nil _, GG_pl⟩ (by decide +kernel)
def n_Mo_neighbours_an : List an_T := [(4, [(0, (2, 0, 0, [165])), (1, (0, 0, 23, [])), (2, (0, (Int.negSucc 2147483647), 2147483647, [])), (3, (0, 0, 48, []))], [], (0, 0), [(0, 0, 99996), (1, 3, 48), (0, 0, 100000)], [], [], [], 0, [], [])]
def t_Mo_neighbours_ct : ct_L := [(1, 401, e_Mo_edges), (1, 405, e_Mo_has)]
set_option maxRecDepth 100000 in
theorem c_Mo_neighbours {l : Launch} {D : va_G} {kA : Nat → ClassId} (h_Mo_edges : ct_ok PRD l D kA GG y_Mo_edges z_Mo_edges e_Mo_edges) (h_Mo_has : ct_ok PRD l D kA GG y_Mo_has z_Mo_has e_Mo_has) : ct_ok PRD l D kA GG y_Mo_neighbours z_Mo_neighbours e_Mo_neighbours := chk_all_ok (FT := []) (PT := []) (CT := t_Mo_neighbours_ct) (KT := []) (NT := []) (AN := n_Mo_neighbours_an) (OT := []) 3 200 (List.forall_mem_nil _) (by decide +kernel) ⟨List.forall_mem_nil _, List.forall_mem_nil _, List.forall_mem_cons.mpr ⟨cl_virtual (y := y_Mo_edges) (ci := 13) rfl rfl ⟨_, _, rfl⟩ (by decide +kernel) h_Mo_edges wm_3037 wm_9 wm_3034 wm_3036 wv_13_6 ⟨by decide, by decide, by decide +kernel⟩ (by decide), List.forall_mem_cons.mpr ⟨cl_virtual (y := y_Mo_has) (ci := 13) rfl rfl ⟨_, _, rfl⟩ (by decide +kernel) h_Mo_has wm_3041 wm_9 wm_3038 wm_3040 wv_13_7 ⟨by decide, by decide, by decide +kernel⟩ (by decide), List.forall_mem_nil _⟩⟩, List.forall_mem_nil _, List.forall_mem_nil _, GG_pl⟩ (by decide +kernel)
def n_Mo_touch_an : List an_T := []
def t_Mo_touch_ct : ct_L := [(1, 478, e_Mo_longOf), (1, 1023, e_Mo_px), (1, 1029, e_Mo_py), (42, 1137, e_jMath_abs2_v144), (93, 1137, e_jMath_abs2_v144)]
set_option maxRecDepth 100000 in
theorem c_Mo_touch {l : Launch} {D : va_G} {kA : Nat → ClassId} (h_Mo_longOf : ct_ok PRD l D kA GG y_Mo_longOf z_Mo_longOf e_Mo_longOf) (h_Mo_px : ct_ok PRD l D kA GG y_Mo_px z_Mo_px e_Mo_px) (h_Mo_py : ct_ok PRD l D kA GG y_Mo_py z_Mo_py e_Mo_py) : ct_ok PRD l D kA GG y_Mo_touch z_Mo_touch e_Mo_touch := chk_all_ok (FT := []) (PT := []) (CT := t_Mo_touch_ct) (KT := [(2, 1140, .long (2), (1, 2, 2, []))]) (NT := []) (AN := n_Mo_touch_an) (OT := []) 0 200 (List.forall_mem_nil _) (by decide +kernel) ⟨List.forall_mem_nil _, List.forall_mem_nil _, List.forall_mem_cons.mpr ⟨cl_virtual (y := y_Mo_longOf) (ci := 13) rfl rfl ⟨_, _, rfl⟩ (by decide +kernel) h_Mo_longOf wm_3029 wm_9 wm_3026 wm_3028 wv_13_4 ⟨by decide, by decide, by decide +kernel⟩ (by decide), List.forall_mem_cons.mpr ⟨cl_virtual (y := y_Mo_px) (ci := 13) rfl rfl ⟨_, _, rfl⟩ (by decide +kernel) h_Mo_px wm_3675 wm_9 wm_3672 wm_3674 wv_21_14 ⟨by decide, by decide, by decide +kernel⟩ (by decide), List.forall_mem_cons.mpr ⟨cl_virtual (y := y_Mo_py) (ci := 13) rfl rfl ⟨_, _, rfl⟩ (by decide +kernel) h_Mo_py wm_3679 wm_9 wm_3676 wm_3678 wv_21_15 ⟨by decide, by decide, by decide +kernel⟩ (by decide), List.forall_mem_cons.mpr ⟨cl_static (y := y_jMath_abs2) c_jMath_abs2_v144 wm_2082 wm_10 wm_3769 wm_2081 ⟨by decide, by decide, by decide +kernel⟩ (by decide), List.forall_mem_cons.mpr ⟨cl_static (y := y_jMath_abs2) c_jMath_abs2_v144 wm_2082 wm_10 wm_3769 wm_2081 ⟨by decide, by decide, by decide +kernel⟩ (by decide), List.forall_mem_nil _⟩⟩⟩⟩⟩, List.forall_mem_cons.mpr ⟨⟨kt_mk2 wm_3770, fun _ => Or.inr (Or.inl ⟨rfl, _, rfl, by decide, by decide⟩)⟩, List.forall_mem_nil _⟩, List.forall_mem_nil _, GG_pl⟩ (by decide +kernel)

def o_Ho_searchMap_0 : or_T := (20, 9, [(6, (0, 0, 0, []))], [], [], [], [(20, [3, 6], [8, 0, 23, 0])], [], [])
theorem oo_Ho_searchMap_0 {kA : Nat → ClassId} : or_ok PRD kA GG o_Ho_searchMap_0 := by
  refine or_mk fun A ta ws vs hD hth hl => ?_
  intro t6 k6
  have nf0 : fc_1 PRD (20, [3, 6], [8, 0, 23, 0]) ws (vs) := by
    refine ⟨nf_in hl rfl, sgq_197 ?_⟩
    · show ∀ j : Nat, (j : Int) < v_iv (n_v vs 6) + 0 → 0 ≤ w_el ws (v_ad (n_v vs 3)) j ∧ w_el ws (v_ad (n_v vs 3)) j ≤ 23
      intro j hj
      exfalso; omega
  refine ⟨(fun _ h => (by cases h)), [], trivial, ?_, (fun _ h => (by cases h))⟩
  rw [List.append_nil]
  exact List.forall_mem_cons.mpr ⟨⟨show (20 : Nat) < 100 from by decide, nf0⟩, (fun _ h => (by cases h))⟩
def o_Ho_searchMap_1 : or_T := (144, 13, [(6, (0, 0, 22, [])), (8, (0, 2, 23, []))], [(100, [3, 6, 8], []), (20, [3, 6], [8, 0, 23, 0])], [], [], [(20, [3, 6], [8, 0, 23, 1])], [], [])
theorem oo_Ho_searchMap_1 {kA : Nat → ClassId} : or_ok PRD kA GG o_Ho_searchMap_1 := by
  refine or_mk fun A ta ws vs hD hth hl => ?_
  intro t6 k6 t8 k8 ta1 w1 le1 s1 f1
  have s1 : (∀ b j, w_el ws b j = if b = v_ad (n_v vs 3) ∧ j = (v_iv (n_v vs 6)).toNat then v_iv (n_v vs 8) else w_el w1 b j) ∧ ∀ b k, w_fd ws b k = w_fd w1 b k := s1.2
  replace f1 := shm_197 f1
  have nf0 : fc_1 PRD (20, [3, 6], [8, 0, 23, 1]) ws (vs) := by
    refine ⟨nf_in hl rfl, sgq_183 ?_⟩
    · show ∀ j : Nat, (j : Int) < v_iv (n_v vs 6) + 1 → 0 ≤ w_el ws (v_ad (n_v vs 3)) j ∧ w_el ws (v_ad (n_v vs 3)) j ≤ 23
      intro j hj
      by_cases hji : j = (v_iv (n_v vs 6)).toNat
      · rw [s1.1, if_pos ⟨rfl, hji⟩]; first | (constructor <;> omega) | (exfalso; omega)
      · rw [s1.1, if_neg (fun e => hji e.2)]; exact f1 j (by omega)
  refine ⟨(fun _ h => (by cases h)), [], trivial, ?_, (fun _ h => (by cases h))⟩
  rw [List.append_nil]
  exact List.forall_mem_cons.mpr ⟨⟨show (20 : Nat) < 100 from by decide, nf0⟩, (fun _ h => (by cases h))⟩
def o_Ho_searchMap_2 : or_T := (20, 15, [(6, (0, 0, 22, []))], [(20, [3, 6], [8, 0, 23, 1])], [], [], [(20, [3, 6], [8, 0, 23, 0])], [], [])
theorem oo_Ho_searchMap_2 {kA : Nat → ClassId} : or_ok PRD kA GG o_Ho_searchMap_2 := by
  refine or_mk fun A ta ws vs hD hth hl => ?_
  intro t6 k6 f0
  replace f0 := shm_183 f0
  have nf0 : fc_1 PRD (20, [3, 6], [8, 0, 23, 0]) ws (vs) := by
    refine ⟨nf_in hl rfl, sgq_197 ?_⟩
    · show ∀ j : Nat, (j : Int) < v_iv (n_v vs 6) + 0 → 0 ≤ w_el ws (v_ad (n_v vs 3)) j ∧ w_el ws (v_ad (n_v vs 3)) j ≤ 23
      intro j hj
      exact f0 j (by omega)
  refine ⟨(fun _ h => (by cases h)), [], trivial, ?_, (fun _ h => (by cases h))⟩
  rw [List.append_nil]
  exact List.forall_mem_cons.mpr ⟨⟨show (20 : Nat) < 100 from by decide, nf0⟩, (fun _ h => (by cases h))⟩
def o_Ho_searchMap_3 : or_T := (20, 19, [(6, (0, 0, 22, [])), (17, (0, 1, 23, []))], [(6, [17, 6], [1]), (20, [3, 6], [8, 0, 23, 1])], [], [], [(20, [3, 17], [8, 0, 23, 0])], [], [(17, 6, 1, 1)])
theorem oo_Ho_searchMap_3 {kA : Nat → ClassId} : or_ok PRD kA GG o_Ho_searchMap_3 := by
  refine or_mk fun A ta ws vs hD hth hl => ?_
  intro t6 k6 t17 k17 d0 f0 f1
  replace f0 := shm_4 f0
  replace f1 := shm_183 f1
  have nf0 : fc_1 PRD (20, [3, 17], [8, 0, 23, 0]) ws (vs) := by
    refine ⟨nf_in hl rfl, sgq_197 ?_⟩
    · show ∀ j : Nat, (j : Int) < v_iv (n_v vs 17) + 0 → 0 ≤ w_el ws (v_ad (n_v vs 3)) j ∧ w_el ws (v_ad (n_v vs 3)) j ≤ 23
      intro j hj
      exact f1 j (by omega)
  refine ⟨(fun _ h => (by cases h)), [], trivial, ?_, (fun _ h => (by cases h))⟩
  rw [List.append_nil]
  exact List.forall_mem_cons.mpr ⟨⟨show (20 : Nat) < 100 from by decide, nf0⟩, (fun _ h => (by cases h))⟩
def o_Ho_searchMap_4 : or_T := (20, 12, [(6, (0, 0, 23, [])), (9, (0, -1, -1, [])), (10, (0, -1, 22, []))], [(6, [10, 6], [-1]), (100, [3, 6, 9], []), (20, [3, 6], [8, 0, 23, 0])], [], [], [(20, [3, 10], [8, 0, 23, 0])], [], [(10, 6, -1, -1)])
theorem oo_Ho_searchMap_4 {kA : Nat → ClassId} : or_ok PRD kA GG o_Ho_searchMap_4 := by
  refine or_mk fun A ta ws vs hD hth hl => ?_
  intro t6 k6 t9 k9 t10 k10 d0 f0 ta1 w1 le1 s1 f2
  replace f0 := shm_198 f0
  have s1 : (∀ b j, w_el ws b j = if b = v_ad (n_v vs 3) ∧ j = (v_iv (n_v vs 6)).toNat then v_iv (n_v vs 9) else w_el w1 b j) ∧ ∀ b k, w_fd ws b k = w_fd w1 b k := s1.2
  replace f2 := shm_197 f2
  have nf0 : fc_1 PRD (20, [3, 10], [8, 0, 23, 0]) ws (vs) := by
    refine ⟨nf_in hl rfl, sgq_197 ?_⟩
    · show ∀ j : Nat, (j : Int) < v_iv (n_v vs 10) + 0 → 0 ≤ w_el ws (v_ad (n_v vs 3)) j ∧ w_el ws (v_ad (n_v vs 3)) j ≤ 23
      intro j hj
      by_cases hji : j = (v_iv (n_v vs 6)).toNat
      · rw [s1.1, if_pos ⟨rfl, hji⟩]; first | (constructor <;> omega) | (exfalso; omega)
      · rw [s1.1, if_neg (fun e => hji e.2)]; exact f2 j (by omega)
  refine ⟨(fun _ h => (by cases h)), [], trivial, ?_, (fun _ h => (by cases h))⟩
  rw [List.append_nil]
  exact List.forall_mem_cons.mpr ⟨⟨show (20 : Nat) < 100 from by decide, nf0⟩, (fun _ h => (by cases h))⟩
def o_Ho_searchMap_5 : or_T := (144, 16, [(6, (0, 0, 23, [])), (8, (0, 0, 23, []))], [(100, [3, 6, 8], []), (20, [3, 6], [8, 0, 23, 0])], [], [], [(20, [3, 6], [8, 0, 23, 1])], [], [])
theorem oo_Ho_searchMap_5 {kA : Nat → ClassId} : or_ok PRD kA GG o_Ho_searchMap_5 := by
  refine or_mk fun A ta ws vs hD hth hl => ?_
  intro t6 k6 t8 k8 ta1 w1 le1 s1 f1
  have s1 : (∀ b j, w_el ws b j = if b = v_ad (n_v vs 3) ∧ j = (v_iv (n_v vs 6)).toNat then v_iv (n_v vs 8) else w_el w1 b j) ∧ ∀ b k, w_fd ws b k = w_fd w1 b k := s1.2
  replace f1 := shm_197 f1
  have nf0 : fc_1 PRD (20, [3, 6], [8, 0, 23, 1]) ws (vs) := by
    refine ⟨nf_in hl rfl, sgq_183 ?_⟩
    · show ∀ j : Nat, (j : Int) < v_iv (n_v vs 6) + 1 → 0 ≤ w_el ws (v_ad (n_v vs 3)) j ∧ w_el ws (v_ad (n_v vs 3)) j ≤ 23
      intro j hj
      by_cases hji : j = (v_iv (n_v vs 6)).toNat
      · rw [s1.1, if_pos ⟨rfl, hji⟩]; first | (constructor <;> omega) | (exfalso; omega)
      · rw [s1.1, if_neg (fun e => hji e.2)]; exact f1 j (by omega)
  refine ⟨(fun _ h => (by cases h)), [], trivial, ?_, (fun _ h => (by cases h))⟩
  rw [List.append_nil]
  exact List.forall_mem_cons.mpr ⟨⟨show (20 : Nat) < 100 from by decide, nf0⟩, (fun _ h => (by cases h))⟩
def o_Ho_searchMap_6 : or_T := (20, 18, [(6, (0, 0, 23, []))], [(20, [3, 6], [8, 0, 23, 1])], [], [], [(20, [3, 6], [8, 0, 23, 0])], [], [])
theorem oo_Ho_searchMap_6 {kA : Nat → ClassId} : or_ok PRD kA GG o_Ho_searchMap_6 := by
  refine or_mk fun A ta ws vs hD hth hl => ?_
  intro t6 k6 f0
  replace f0 := shm_183 f0
  have nf0 : fc_1 PRD (20, [3, 6], [8, 0, 23, 0]) ws (vs) := by
    refine ⟨nf_in hl rfl, sgq_197 ?_⟩
    · show ∀ j : Nat, (j : Int) < v_iv (n_v vs 6) + 0 → 0 ≤ w_el ws (v_ad (n_v vs 3)) j ∧ w_el ws (v_ad (n_v vs 3)) j ≤ 23
      intro j hj
      exact f0 j (by omega)
  refine ⟨(fun _ h => (by cases h)), [], trivial, ?_, (fun _ h => (by cases h))⟩
  rw [List.append_nil]
  exact List.forall_mem_cons.mpr ⟨⟨show (20 : Nat) < 100 from by decide, nf0⟩, (fun _ h => (by cases h))⟩
def o_Ho_searchMap_7 : or_T := (20, 22, [(6, (0, 0, 23, [])), (20, (0, 1, 24, []))], [(6, [20, 6], [1]), (20, [3, 6], [8, 0, 23, 1])], [], [], [(20, [3, 20], [8, 0, 23, 0])], [], [(20, 6, 1, 1)])
theorem oo_Ho_searchMap_7 {kA : Nat → ClassId} : or_ok PRD kA GG o_Ho_searchMap_7 := by
  refine or_mk fun A ta ws vs hD hth hl => ?_
  intro t6 k6 t20 k20 d0 f0 f1
  replace f0 := shm_4 f0
  replace f1 := shm_183 f1
  have nf0 : fc_1 PRD (20, [3, 20], [8, 0, 23, 0]) ws (vs) := by
    refine ⟨nf_in hl rfl, sgq_197 ?_⟩
    · show ∀ j : Nat, (j : Int) < v_iv (n_v vs 20) + 0 → 0 ≤ w_el ws (v_ad (n_v vs 3)) j ∧ w_el ws (v_ad (n_v vs 3)) j ≤ 23
      intro j hj
      exact f1 j (by omega)
  refine ⟨(fun _ h => (by cases h)), [], trivial, ?_, (fun _ h => (by cases h))⟩
  rw [List.append_nil]
  exact List.forall_mem_cons.mpr ⟨⟨show (20 : Nat) < 100 from by decide, nf0⟩, (fun _ h => (by cases h))⟩
def o_Ho_searchMap_8 : or_T := (20, 15, [(6, (0, 0, 22, [])), (12, (0, -1, -1, [])), (13, (0, -1, 21, []))], [(6, [13, 6], [-1]), (100, [3, 6, 12], []), (20, [3, 6], [8, 0, 23, 0])], [], [], [(20, [3, 13], [8, 0, 23, 0])], [], [(13, 6, -1, -1)])
theorem oo_Ho_searchMap_8 {kA : Nat → ClassId} : or_ok PRD kA GG o_Ho_searchMap_8 := by
  refine or_mk fun A ta ws vs hD hth hl => ?_
  intro t6 k6 t12 k12 t13 k13 d0 f0 ta1 w1 le1 s1 f2
  replace f0 := shm_198 f0
  have s1 : (∀ b j, w_el ws b j = if b = v_ad (n_v vs 3) ∧ j = (v_iv (n_v vs 6)).toNat then v_iv (n_v vs 12) else w_el w1 b j) ∧ ∀ b k, w_fd ws b k = w_fd w1 b k := s1.2
  replace f2 := shm_197 f2
  have nf0 : fc_1 PRD (20, [3, 13], [8, 0, 23, 0]) ws (vs) := by
    refine ⟨nf_in hl rfl, sgq_197 ?_⟩
    · show ∀ j : Nat, (j : Int) < v_iv (n_v vs 13) + 0 → 0 ≤ w_el ws (v_ad (n_v vs 3)) j ∧ w_el ws (v_ad (n_v vs 3)) j ≤ 23
      intro j hj
      by_cases hji : j = (v_iv (n_v vs 6)).toNat
      · rw [s1.1, if_pos ⟨rfl, hji⟩]; first | (constructor <;> omega) | (exfalso; omega)
      · rw [s1.1, if_neg (fun e => hji e.2)]; exact f2 j (by omega)
  refine ⟨(fun _ h => (by cases h)), [], trivial, ?_, (fun _ h => (by cases h))⟩
  rw [List.append_nil]
  exact List.forall_mem_cons.mpr ⟨⟨show (20 : Nat) < 100 from by decide, nf0⟩, (fun _ h => (by cases h))⟩
def n_Ho_searchMap_an : List an_T := [(20, [(0, (2, 0, 0, [12])), (1, (2, 0, 0, [3])), (2, (2, 0, 0, [3])), (3, (2, 0, 0, [295])), (4, (0, 0, 24, [])), (5, (0, 0, 16777215, [])), (6, (0, (Int.negSucc 0), 24, [])), (7, (0, (Int.negSucc 2147483645), 60000, []))], [], (0, 0), [(0, 0, 99980), (1, 7, 60000), (0, 0, 100000), (0, 0, 0), (0, 0, 0)], [(5, 4, (Int.negSucc 999999999999), 16777214), (6, 4, (Int.negSucc 999999999999), 0)], [((0, 8), (0, (Int.negSucc 0), 20000, []))], [], 0, [], [(20, [3, 6], [8, 0, 23, 0])]), (69, [(0, (2, 0, 0, [12])), (1, (2, 0, 0, [3])), (2, (2, 0, 0, [3])), (3, (2, 0, 0, [295])), (4, (0, 1, 24, [])), (5, (0, 0, 16777215, [])), (6, (0, 0, 23, [])), (7, (0, (Int.negSucc 2147483646), 59999, [])), (8, (0, 0, 24, []))], [], (0, 0), [(0, 0, 99980), (1, 7, 60000), (0, 0, 99931), (1, 8, 24), (0, 0, 100000)], [(6, 4, (Int.negSucc 999999999999), (Int.negSucc 0))], [], [], 0, [], [(20, [3, 6], [8, 0, 23, 0])])]
def t_Ho_searchMap_ct : ct_L := [(0, 431, e_Ho_mayBecome), (45, 375, e_jArr_fill1_v145)]
set_option maxRecDepth 100000 in
theorem c_Ho_searchMap {l : Launch} {D : va_G} {kA : Nat → ClassId} (h_Ho_mayBecome : ct_ok PRD l D kA GG y_Ho_mayBecome z_Ho_mayBecome e_Ho_mayBecome) : ct_ok PRD l D kA GG y_Ho_searchMap z_Ho_searchMap e_Ho_searchMap := chk_all_ok (FT := [(57, 12, 8), (132, 3, 0)]) (PT := [(57, 12, 8, .int)]) (CT := t_Ho_searchMap_ct) (KT := [(1, 430, .int (60000), (0, 60000, 60000, []))]) (NT := []) (AN := n_Ho_searchMap_an) (OT := [o_Ho_searchMap_0, o_Ho_searchMap_1, o_Ho_searchMap_2, o_Ho_searchMap_3, o_Ho_searchMap_4, o_Ho_searchMap_5, o_Ho_searchMap_6, o_Ho_searchMap_7, o_Ho_searchMap_8]) 5 668 (List.forall_mem_cons.mpr ⟨oo_Ho_searchMap_0, List.forall_mem_cons.mpr ⟨oo_Ho_searchMap_1, List.forall_mem_cons.mpr ⟨oo_Ho_searchMap_2, List.forall_mem_cons.mpr ⟨oo_Ho_searchMap_3, List.forall_mem_cons.mpr ⟨oo_Ho_searchMap_4, List.forall_mem_cons.mpr ⟨oo_Ho_searchMap_5, List.forall_mem_cons.mpr ⟨oo_Ho_searchMap_6, List.forall_mem_cons.mpr ⟨oo_Ho_searchMap_7, List.forall_mem_cons.mpr ⟨oo_Ho_searchMap_8, List.forall_mem_nil _⟩⟩⟩⟩⟩⟩⟩⟩⟩) (by decide +kernel) ⟨List.forall_mem_cons.mpr ⟨gf_Ho_57, List.forall_mem_cons.mpr ⟨gf_Ho_132, List.forall_mem_nil _⟩⟩, List.forall_mem_cons.mpr ⟨pf_Ho_57, List.forall_mem_nil _⟩, List.forall_mem_cons.mpr ⟨cl_static (y := y_Ho_mayBecome) h_Ho_mayBecome wm_1035 wm_1 wm_1033 wm_1034 ⟨by decide, by decide, by decide +kernel⟩ (by decide), List.forall_mem_cons.mpr ⟨cl_static (y := y_jArr_fill1) c_jArr_fill1_v145 wm_55 wm_4 wm_1031 wm_54 ⟨by decide, by decide, by decide +kernel⟩ (by decide), List.forall_mem_nil _⟩⟩, List.forall_mem_cons.mpr ⟨kx_Ho_1_430, List.forall_mem_nil _⟩, List.forall_mem_nil _, GG_pl⟩ (by decide +kernel)
def n_Dr_isOnPiece_an : List an_T := []
def t_Dr_isOnPiece_ct : ct_L := [(1, 198, e_Dr_sideOf), (13, 128, e_Dr_pointX_np), (37, 134, e_Dr_pointY_np), (67, 128, e_Dr_pointX_np), (97, 134, e_Dr_pointY_np), (126, 154, e_jMath_min1_v58), (159, 157, e_jMath_max1_v57), (195, 154, e_jMath_min1_v58), (231, 157, e_jMath_max1_v57)]
set_option maxRecDepth 100000 in
theorem c_Dr_isOnPiece {l : Launch} {D : va_G} {kA : Nat → ClassId} (h_Dr_pointX : ct_ok PRD l D kA GG y_Dr_pointX z_Dr_pointX e_Dr_pointX) (h_Dr_pointY : ct_ok PRD l D kA GG y_Dr_pointY z_Dr_pointY e_Dr_pointY) (h_Dr_sideOf : ct_ok PRD l D kA GG y_Dr_sideOf z_Dr_sideOf e_Dr_sideOf) : ct_ok PRD l D kA GG y_Dr_isOnPiece z_Dr_isOnPiece e_Dr_isOnPiece := chk_all_ok (FT := []) (PT := []) (CT := t_Dr_isOnPiece_ct) (KT := []) (NT := []) (AN := n_Dr_isOnPiece_an) (OT := []) 0 260 (List.forall_mem_nil _) (by decide +kernel) ⟨List.forall_mem_nil _, List.forall_mem_nil _, List.forall_mem_cons.mpr ⟨cl_virtual (y := y_Dr_sideOf) (ci := 0) rfl rfl ⟨_, _, rfl⟩ (by decide +kernel) h_Dr_sideOf wm_2030 wm_8 wm_2027 wm_2029 wv_9_14 ⟨by decide, by decide, by decide +kernel⟩ (by decide), List.forall_mem_cons.mpr ⟨cl_nopa (cl_virtual (y := y_Dr_pointX) (ci := 0) rfl rfl ⟨_, _, rfl⟩ (by decide +kernel) h_Dr_pointX wm_1986 wm_8 wm_1983 wm_1984 wm_1985 ⟨by decide, by decide, by decide +kernel⟩ (by decide)), List.forall_mem_cons.mpr ⟨cl_nopa (cl_virtual (y := y_Dr_pointY) (ci := 0) rfl rfl ⟨_, _, rfl⟩ (by decide +kernel) h_Dr_pointY wm_1991 wm_8 wm_1988 wm_1989 wm_1990 ⟨by decide, by decide, by decide +kernel⟩ (by decide)), List.forall_mem_cons.mpr ⟨cl_nopa (cl_virtual (y := y_Dr_pointX) (ci := 0) rfl rfl ⟨_, _, rfl⟩ (by decide +kernel) h_Dr_pointX wm_1986 wm_8 wm_1983 wm_1984 wm_1985 ⟨by decide, by decide, by decide +kernel⟩ (by decide)), List.forall_mem_cons.mpr ⟨cl_nopa (cl_virtual (y := y_Dr_pointY) (ci := 0) rfl rfl ⟨_, _, rfl⟩ (by decide +kernel) h_Dr_pointY wm_1991 wm_8 wm_1988 wm_1989 wm_1990 ⟨by decide, by decide, by decide +kernel⟩ (by decide)), List.forall_mem_cons.mpr ⟨cl_static (y := y_jMath_min1) c_jMath_min1_v58 wm_658 wm_10 wm_2026 wm_657 ⟨by decide, by decide, by decide +kernel⟩ (by decide), List.forall_mem_cons.mpr ⟨cl_static (y := y_jMath_max1) c_jMath_max1_v57 wm_836 wm_10 wm_2025 wm_835 ⟨by decide, by decide, by decide +kernel⟩ (by decide), List.forall_mem_cons.mpr ⟨cl_static (y := y_jMath_min1) c_jMath_min1_v58 wm_658 wm_10 wm_2026 wm_657 ⟨by decide, by decide, by decide +kernel⟩ (by decide), List.forall_mem_cons.mpr ⟨cl_static (y := y_jMath_max1) c_jMath_max1_v57 wm_836 wm_10 wm_2025 wm_835 ⟨by decide, by decide, by decide +kernel⟩ (by decide), List.forall_mem_nil _⟩⟩⟩⟩⟩⟩⟩⟩⟩, List.forall_mem_nil _, List.forall_mem_nil _, GG_pl⟩ (by decide +kernel)
def n_Dr_report_an : List an_T := []
def t_Dr_report_ct : ct_L := [(1, 85, e_Gr_hasNode), (1, 94, e_Dr_reportLayers), (1, 98, e_Dr_reportArea)]
set_option maxRecDepth 100000 in
theorem c_Dr_report {l : Launch} {D : va_G} {kA : Nat → ClassId} (h_Dr_reportArea : ct_ok PRD l D kA GG y_Dr_reportArea z_Dr_reportArea e_Dr_reportArea) (h_Dr_reportLayers : ct_ok PRD l D kA GG y_Dr_reportLayers z_Dr_reportLayers e_Dr_reportLayers) (h_Gr_hasNode : ct_ok PRD l D kA GG y_Gr_hasNode z_Gr_hasNode e_Gr_hasNode) : ct_ok PRD l D kA GG y_Dr_report z_Dr_report e_Dr_report := chk_all_ok (FT := [(9, 0, 1), (31, 0, 7), (37, 0, 9), (47, 0, 12), (74, 0, 0)]) (PT := []) (CT := t_Dr_report_ct) (KT := []) (NT := []) (AN := n_Dr_report_an) (OT := []) 0 288 (List.forall_mem_nil _) (by decide +kernel) ⟨List.forall_mem_cons.mpr ⟨gf_Dr_9, List.forall_mem_cons.mpr ⟨gf_Dr_31, List.forall_mem_cons.mpr ⟨gf_Dr_37, List.forall_mem_cons.mpr ⟨gf_Dr_47, List.forall_mem_cons.mpr ⟨gf_Dr_74, List.forall_mem_nil _⟩⟩⟩⟩⟩, List.forall_mem_nil _, List.forall_mem_cons.mpr ⟨cl_virtual (y := y_Gr_hasNode) (ci := 3) rfl rfl ⟨_, _, rfl⟩ (by decide +kernel) h_Gr_hasNode wm_921 wm_3 wm_1822 wm_919 wm_920 ⟨by decide, by decide, by decide +kernel⟩ (by decide), List.forall_mem_cons.mpr ⟨cl_virtual (y := y_Dr_reportLayers) (ci := 0) rfl rfl ⟨_, _, rfl⟩ (by decide +kernel) h_Dr_reportLayers wm_1836 wm_8 wm_1833 wm_1835 wv_8_13 ⟨by decide, by decide, by decide +kernel⟩ (by decide), List.forall_mem_cons.mpr ⟨cl_virtual (y := y_Dr_reportArea) (ci := 0) rfl rfl ⟨_, _, rfl⟩ (by decide +kernel) h_Dr_reportArea wm_1840 wm_8 wm_1837 wm_1839 wv_8_14 ⟨by decide, by decide, by decide +kernel⟩ (by decide), List.forall_mem_nil _⟩⟩⟩, List.forall_mem_nil _, List.forall_mem_nil _, GG_pl⟩ (by decide +kernel)
def o_Pn_cutFace_0 : or_T := (27, 10, [(4, (0, 0, 144, [])), (7, (0, 0, 144, [])), (8, (0, -144, 144, []))], [(2, [8, 7, 4], [])], [], [], [(21, [4, 8], [144])], [], [(8, 7, -144, 0)])
theorem oo_Pn_cutFace_0 {kA : Nat → ClassId} : or_ok PRD kA GG o_Pn_cutFace_0 := by
  refine or_mk fun A ta ws vs hD hth hl => ?_
  intro t4 k4 t7 k7 t8 k8 d0 f0
  replace f0 := shm_14 f0
  have nf0 : fc_1 PRD (21, [4, 8], [144]) ws (vs) := by
    refine ⟨nf_in hl rfl, sgq_195 ?_⟩
    · show v_iv (n_v vs 4) + v_iv (n_v vs 8) ≤ 144
      omega
  refine ⟨(fun _ h => (by cases h)), [], trivial, ?_, (fun _ h => (by cases h))⟩
  rw [List.append_nil]
  exact List.forall_mem_cons.mpr ⟨⟨show (21 : Nat) < 100 from by decide, nf0⟩, (fun _ h => (by cases h))⟩
def o_Pn_cutFace_1 : or_T := (44, 8, [(2, (0, 0, 144, [])), (3, (0, 1, 144, [])), (4, (0, 0, 143, [])), (7, (0, 0, 287, []))], [(1, [7, 2, 4], []), (7, [4, 3], [2]), (21, [2, 3], [144])], [(7, (0, 0, 143, []))], [], [], [], [(7, 4, 0, 144), (7, 3, -4294967296, 143), (7, 2, 0, 143), (4, 3, -4294967296, -1)])
theorem oo_Pn_cutFace_1 {kA : Nat → ClassId} : or_ok PRD kA GG o_Pn_cutFace_1 := by
  refine or_mk fun A ta ws vs hD hth hl => ?_
  intro t2 k2 t3 k3 t4 k4 t7 k7 d0 d1 d2 d3 f0 f1 f2
  replace f0 := shm_12 f0
  replace f1 := shm_6 f1
  replace f2 := shm_195 f2
  have rf7 : tv_ok ta (0, 0, 143, []) (n_v vs 7) := tv_in t7 (by omega) (by omega)
  refine ⟨List.forall_mem_cons.mpr ⟨rf7, (fun _ h => (by cases h))⟩, [], trivial, ?_, (fun _ h => (by cases h))⟩
  rw [List.append_nil]
  exact (fun _ h => (by cases h))
def o_Pn_cutFace_2 : or_T := (62, 13, [(2, (0, 0, 144, [])), (3, (0, 1, 144, [])), (4, (0, 0, 143, [])), (7, (0, 0, 143, [])), (9, (0, 1, 1, [])), (10, (0, 1, 144, [])), (11, (0, 0, 143, [])), (12, (0, 0, 287, []))], [(1, [12, 2, 11], []), (1, [10, 4, 9], []), (1, [7, 2, 4], []), (7, [4, 3], [2]), (21, [2, 3], [144])], [(12, (0, 0, 143, []))], [], [], [], [(12, 11, 0, 144), (12, 3, -4294967295, 143), (12, 2, 0, 143), (11, 3, -4294967295, -1), (10, 4, 1, 1), (10, 3, -4294967296, 0), (7, 4, 0, 144), (7, 2, 0, 143), (4, 3, -4294967296, -1)])
theorem oo_Pn_cutFace_2 {kA : Nat → ClassId} : or_ok PRD kA GG o_Pn_cutFace_2 := by
  refine or_mk fun A ta ws vs hD hth hl => ?_
  intro t2 k2 t3 k3 t4 k4 t7 k7 t9 k9 t10 k10 t11 k11 t12 k12 d0 d1 d2 d3 d4 d5 d6 d7 d8 f0 f1 f2 f3 f4
  replace f0 := shm_12 f0
  replace f1 := shm_12 f1
  replace f2 := shm_12 f2
  replace f3 := shm_6 f3
  replace f4 := shm_195 f4
  have rf12 : tv_ok ta (0, 0, 143, []) (n_v vs 12) := tv_in t12 (by omega) (by omega)
  refine ⟨List.forall_mem_cons.mpr ⟨rf12, (fun _ h => (by cases h))⟩, [], trivial, ?_, (fun _ h => (by cases h))⟩
  rw [List.append_nil]
  exact (fun _ h => (by cases h))
def o_Pn_cutFace_3 : or_T := (80, 18, [(2, (0, 0, 144, [])), (3, (0, 1, 144, [])), (4, (0, 0, 143, [])), (7, (0, 0, 143, [])), (9, (0, 1, 1, [])), (10, (0, 1, 144, [])), (11, (0, 0, 143, [])), (12, (0, 0, 143, [])), (14, (0, 2, 2, [])), (15, (0, 2, 145, [])), (16, (0, 0, 143, [])), (17, (0, 0, 287, []))], [(1, [17, 2, 16], []), (1, [15, 4, 14], []), (1, [12, 2, 11], []), (1, [10, 4, 9], []), (1, [7, 2, 4], []), (7, [4, 3], [2]), (21, [2, 3], [144])], [(17, (0, 0, 143, []))], [], [], [], [(17, 16, 0, 144), (17, 3, -4294967295, 143), (17, 2, 0, 143), (16, 3, -4294967295, -1), (15, 4, 2, 2), (15, 3, -4294967296, 1), (12, 11, 0, 144), (12, 2, 0, 143), (11, 3, -4294967295, -1), (10, 4, 1, 1), (10, 3, -4294967296, 0), (7, 4, 0, 144), (7, 2, 0, 143), (4, 3, -4294967296, -1)])
theorem oo_Pn_cutFace_3 {kA : Nat → ClassId} : or_ok PRD kA GG o_Pn_cutFace_3 := by
  refine or_mk fun A ta ws vs hD hth hl => ?_
  intro t2 k2 t3 k3 t4 k4 t7 k7 t9 k9 t10 k10 t11 k11 t12 k12 t14 k14 t15 k15 t16 k16 t17 k17 d0 d1 d2 d3 d4 d5 d6 d7 d8 d9 d10 d11 d12 d13 f0 f1 f2 f3 f4 f5 f6
  replace f0 := shm_12 f0
  replace f1 := shm_12 f1
  replace f2 := shm_12 f2
  replace f3 := shm_12 f3
  replace f4 := shm_12 f4
  replace f5 := shm_6 f5
  replace f6 := shm_195 f6
  have rf17 : tv_ok ta (0, 0, 143, []) (n_v vs 17) := tv_in t17 (by omega) (by omega)
  refine ⟨List.forall_mem_cons.mpr ⟨rf17, (fun _ h => (by cases h))⟩, [], trivial, ?_, (fun _ h => (by cases h))⟩
  rw [List.append_nil]
  exact (fun _ h => (by cases h))
def n_Pn_cutFace_an : List an_T := [(27, [(0, (2, 0, 0, [7])), (1, (0, 0, 143, [])), (2, (0, 0, 144, [])), (3, (0, (Int.negSucc 143), 144, [])), (4, (0, 0, 144, []))], [], (0, 0), [(0, 0, 99973), (1, 4, 144), (0, 0, 100000)], [(4, 3, (Int.negSucc 999999999999), 144)], [], [], 0, [], [(21, [2, 3], [144])])]
def t_Pn_cutFace_ct : ct_L := [(1, 134, e_Ne_edgeBetween), (1, 137, e_Ne_insertAhead), (1, 141, e_Ne_insertBehind), (439, 104, e_Ne_join_at_Nq_gx)]
set_option maxRecDepth 100000 in
theorem c_Pn_cutFace {l : Launch} {D : va_G} {kA : Nat → ClassId} (h_Ne_edgeBetween : ct_ok PRD l D kA GG y_Ne_edgeBetween z_Ne_edgeBetween e_Ne_edgeBetween) (h_Ne_insertAhead : ct_ok PRD l D kA GG y_Ne_insertAhead z_Ne_insertAhead e_Ne_insertAhead) (h_Ne_insertBehind : ct_ok PRD l D kA GG y_Ne_insertBehind z_Ne_insertBehind e_Ne_insertBehind) (h_Ne_join_at_Nq_gx : ct_ok PRD l D kA GG y_Ne_join_at_Nq_gx z_Ne_join_at_Nq_gx e_Ne_join_at_Nq_gx) : ct_ok PRD l D kA GG y_Pn_cutFace z_Pn_cutFace e_Pn_cutFace := chk_all_ok (FT := [(12, 7, 0), (125, 5, 14), (128, 5, 15), (131, 5, 9)]) (PT := []) (CT := t_Pn_cutFace_ct) (KT := []) (NT := []) (AN := n_Pn_cutFace_an) (OT := [o_Pn_cutFace_0, o_Pn_cutFace_1, o_Pn_cutFace_2, o_Pn_cutFace_3]) 3 480 (List.forall_mem_cons.mpr ⟨oo_Pn_cutFace_0, List.forall_mem_cons.mpr ⟨oo_Pn_cutFace_1, List.forall_mem_cons.mpr ⟨oo_Pn_cutFace_2, List.forall_mem_cons.mpr ⟨oo_Pn_cutFace_3, List.forall_mem_nil _⟩⟩⟩⟩) (by decide +kernel) ⟨List.forall_mem_cons.mpr ⟨gf_Pn_12, List.forall_mem_cons.mpr ⟨gf_Pn_125, List.forall_mem_cons.mpr ⟨gf_Pn_128, List.forall_mem_cons.mpr ⟨gf_Pn_131, List.forall_mem_nil _⟩⟩⟩⟩, List.forall_mem_nil _, List.forall_mem_cons.mpr ⟨cl_virtual (y := y_Ne_edgeBetween) (ci := 5) rfl rfl ⟨_, _, rfl⟩ (by decide +kernel) h_Ne_edgeBetween wm_1089 wm_6 wm_1544 wm_1087 wm_1088 ⟨by decide, by decide, by decide +kernel⟩ (by decide), List.forall_mem_cons.mpr ⟨cl_virtual (y := y_Ne_insertAhead) (ci := 5) rfl rfl ⟨_, _, rfl⟩ (by decide +kernel) h_Ne_insertAhead wm_1526 wm_6 wm_1545 wm_1524 wm_1525 ⟨by decide, by decide, by decide +kernel⟩ (by decide), List.forall_mem_cons.mpr ⟨cl_virtual (y := y_Ne_insertBehind) (ci := 5) rfl rfl ⟨_, _, rfl⟩ (by decide +kernel) h_Ne_insertBehind wm_1530 wm_6 wm_1546 wm_1528 wm_1529 ⟨by decide, by decide, by decide +kernel⟩ (by decide), List.forall_mem_cons.mpr ⟨cl_virtual (y := y_Ne_join_at_Nq_gx) (ci := 5) rfl rfl ⟨_, _, rfl⟩ (by decide +kernel) h_Ne_join_at_Nq_gx wm_1065 wm_6 wm_1518 wm_1063 wm_1064 ⟨by decide, by decide, by decide +kernel⟩ (by decide), List.forall_mem_nil _⟩⟩⟩⟩, List.forall_mem_nil _, List.forall_mem_nil _, GG_pl⟩ (by decide +kernel)

def o_Re_advance_0 : or_T := (0, 2, [], [], [], [], [(24, [0, 0], [])], [], [])
theorem oo_Re_advance_0 {kA : Nat → ClassId} : or_ok PRD kA GG o_Re_advance_0 := by
  refine or_mk fun A ta ws vs hD hth hl => ?_
  have nf0 : fc_1 PRD (24, [0, 0], []) ws (vs) := by
    refine ⟨nf_in hl rfl, sgq_1 ?_⟩
    · show n_v vs 0 = n_v vs 0
      first | rfl | simp only [true_and]
  refine ⟨(fun _ h => (by cases h)), [], trivial, ?_, (fun _ h => (by cases h))⟩
  rw [List.append_nil]
  exact List.forall_mem_cons.mpr ⟨⟨show (24 : Nat) < 100 from by decide, nf0⟩, (fun _ h => (by cases h))⟩
set_option maxHeartbeats 4000000 in
theorem vc_Re_advance_1_0 (x1 : Int) (x4 : Int) (x10 : Int) (number_0 : Int) (number_1 : Int) (end_2 : Int) (number_2 : Int) (number_3 : Int) (end_0 : Int) (end_1 : Int) (next_0 : Int) (next_1 : Int) (kind_0 : Int) (begin_0 : Int) (begin_1 : Int) (kind_1 : Int) (kind_2 : Int) (begin_2 : Int) (k1 : (-2147483648) ≤ x1 ∧ x1 ≤ 1000000) (k4 : 1 ≤ x4 ∧ x4 ≤ 1999) (k10 : 2 ≤ x10 ∧ x10 ≤ 2000) (d1 : x4 + (-4294967296) ≤ x10 ∧ x10 ≤ x4 + 0) (d2 : x4 + 1 ≤ x10 ∧ x10 ≤ x4 + 4294967296) (fe_0_5_1 : end_0 = end_1) (fe_0_6_1 : next_0 = next_1) (fe_0_8_1 : begin_0 = begin_1) (fe_0_9_1 : number_0 = number_1) (fe_0_5_2 : end_1 = end_2) (fe_0_7_2 : kind_1 = kind_2) (fe_0_8_2 : begin_1 = begin_2) (fe_0_9_2 : number_1 = number_2) (fe_0_9_3 : number_2 = number_3) (kz_0_5 : 0 ≤ end_0 ∧ end_0 ≤ 2000) (kz_0_6 : 0 ≤ next_0 ∧ next_0 ≤ 2000) (kz_0_7 : (-128) ≤ kind_0 ∧ kind_0 ≤ 127) (kz_0_8 : 0 ≤ begin_0 ∧ begin_0 ≤ 2000) (kz_0_9 : (-2147483648) ≤ number_0 ∧ number_0 ≤ 1000000) : (1 * kind_0 + 0 ≤ 3) ∨ (1 * number_0 + ((-1) * x1 + 0) ≤ 0) := by
  subst fe_0_5_1
  subst fe_0_6_1
  subst fe_0_8_1
  subst fe_0_9_1
  subst fe_0_5_2
  subst fe_0_7_2
  subst fe_0_8_2
  subst fe_0_9_2
  subst fe_0_9_3
  first | assumption | omega | grind
set_option maxHeartbeats 4000000 in
theorem vc_Re_advance_1_1 (x1 : Int) (x4 : Int) (x10 : Int) (number_0 : Int) (number_1 : Int) (end_2 : Int) (number_2 : Int) (number_3 : Int) (end_0 : Int) (end_1 : Int) (next_0 : Int) (next_1 : Int) (kind_0 : Int) (begin_0 : Int) (begin_1 : Int) (kind_1 : Int) (kind_2 : Int) (begin_2 : Int) (k1 : (-2147483648) ≤ x1 ∧ x1 ≤ 1000000) (k4 : 1 ≤ x4 ∧ x4 ≤ 1999) (k10 : 2 ≤ x10 ∧ x10 ≤ 2000) (d1 : x4 + (-4294967296) ≤ x10 ∧ x10 ≤ x4 + 0) (d2 : x4 + 1 ≤ x10 ∧ x10 ≤ x4 + 4294967296) (fe_0_5_1 : end_0 = end_1) (fe_0_6_1 : next_0 = next_1) (fe_0_8_1 : begin_0 = begin_1) (fe_0_9_1 : number_0 = number_1) (fe_0_5_2 : end_1 = end_2) (fe_0_7_2 : kind_1 = kind_2) (fe_0_8_2 : begin_1 = begin_2) (fe_0_9_2 : number_1 = number_2) (fe_0_9_3 : number_2 = number_3) (kz_0_5 : 0 ≤ end_0 ∧ end_0 ≤ 2000) (kz_0_6 : 0 ≤ next_0 ∧ next_0 ≤ 2000) (kz_0_7 : (-128) ≤ kind_0 ∧ kind_0 ≤ 127) (kz_0_8 : 0 ≤ begin_0 ∧ begin_0 ≤ 2000) (kz_0_9 : (-2147483648) ≤ number_0 ∧ number_0 ≤ 1000000) : (1 * kind_0 + 0 ≤ 3) ∨ ((-1) * number_0 + (1 * x1 + 0) ≤ 0) := by
  subst fe_0_5_1
  subst fe_0_6_1
  subst fe_0_8_1
  subst fe_0_9_1
  subst fe_0_5_2
  subst fe_0_7_2
  subst fe_0_8_2
  subst fe_0_9_2
  subst fe_0_9_3
  first | assumption | omega | grind
set_option maxHeartbeats 4000000 in
theorem vc_Re_advance_1_2 (x4 : Int) (x10 : Int) (number_0 : Int) (number_1 : Int) (end_2 : Int) (number_2 : Int) (number_3 : Int) (end_0 : Int) (end_1 : Int) (next_0 : Int) (next_1 : Int) (kind_0 : Int) (begin_0 : Int) (begin_1 : Int) (kind_1 : Int) (kind_2 : Int) (begin_2 : Int) (k4 : 1 ≤ x4 ∧ x4 ≤ 1999) (k10 : 2 ≤ x10 ∧ x10 ≤ 2000) (d1 : x4 + (-4294967296) ≤ x10 ∧ x10 ≤ x4 + 0) (d2 : x4 + 1 ≤ x10 ∧ x10 ≤ x4 + 4294967296) (fe_0_5_1 : end_0 = end_1) (fe_0_6_1 : next_0 = next_1) (fe_0_8_1 : begin_0 = begin_1) (fe_0_9_1 : number_0 = number_1) (fe_0_5_2 : end_1 = end_2) (fe_0_7_2 : kind_1 = kind_2) (fe_0_8_2 : begin_1 = begin_2) (fe_0_9_2 : number_1 = number_2) (fe_0_9_3 : number_2 = number_3) (kz_0_5 : 0 ≤ end_0 ∧ end_0 ≤ 2000) (kz_0_6 : 0 ≤ next_0 ∧ next_0 ≤ 2000) (kz_0_7 : (-128) ≤ kind_0 ∧ kind_0 ≤ 127) (kz_0_8 : 0 ≤ begin_0 ∧ begin_0 ≤ 2000) (kz_0_9 : (-2147483648) ≤ number_0 ∧ number_0 ≤ 1000000) : ((-1) * kind_0 + 0 ≤ (-3)) ∨ (1 * next_0 + ((-1) * begin_0 + (2000 * kind_0 + 0)) ≤ 4008) := by
  subst fe_0_5_1
  subst fe_0_6_1
  subst fe_0_8_1
  subst fe_0_9_1
  subst fe_0_5_2
  subst fe_0_7_2
  subst fe_0_8_2
  subst fe_0_9_2
  subst fe_0_9_3
  first | assumption | omega | grind
set_option maxHeartbeats 4000000 in
theorem vc_Re_advance_1_3 (x4 : Int) (x10 : Int) (number_0 : Int) (number_1 : Int) (end_2 : Int) (number_2 : Int) (number_3 : Int) (end_0 : Int) (end_1 : Int) (next_0 : Int) (next_1 : Int) (begin_0 : Int) (begin_1 : Int) (kind_1 : Int) (kind_2 : Int) (begin_2 : Int) (k4 : 1 ≤ x4 ∧ x4 ≤ 1999) (k10 : 2 ≤ x10 ∧ x10 ≤ 2000) (d1 : x4 + (-4294967296) ≤ x10 ∧ x10 ≤ x4 + 0) (d2 : x4 + 1 ≤ x10 ∧ x10 ≤ x4 + 4294967296) (fe_0_5_1 : end_0 = end_1) (fe_0_6_1 : next_0 = next_1) (fe_0_8_1 : begin_0 = begin_1) (fe_0_9_1 : number_0 = number_1) (fe_0_5_2 : end_1 = end_2) (fe_0_7_2 : kind_1 = kind_2) (fe_0_8_2 : begin_1 = begin_2) (fe_0_9_2 : number_1 = number_2) (fe_0_9_3 : number_2 = number_3) (kz_0_5 : 0 ≤ end_0 ∧ end_0 ≤ 2000) (kz_0_6 : 0 ≤ next_0 ∧ next_0 ≤ 2000) (kz_0_8 : 0 ≤ begin_0 ∧ begin_0 ≤ 2000) (kz_0_9 : (-2147483648) ≤ number_0 ∧ number_0 ≤ 1000000) : 1 * begin_0 + ((-1) * next_0 + 0) ≤ 0 := by
  subst fe_0_5_1
  subst fe_0_6_1
  subst fe_0_8_1
  subst fe_0_9_1
  subst fe_0_5_2
  subst fe_0_7_2
  subst fe_0_8_2
  subst fe_0_9_2
  subst fe_0_9_3
  first | assumption | omega | grind
def o_Re_advance_1 : or_T := (290, 13, [(0, (2, 0, 0, [8])), (1, (0, -2147483648, 1000000, [])), (2, (2, 0, 0, [8])), (3, (0, 1, 1999, [])), (4, (0, 1, 1999, [])), (9, (0, 1, 1, [])), (10, (0, 2, 2000, [])), (12, (0, 1, 1, []))], [(20, [2, 1], [30, 0, 1, 1, 9, -1, 0, 0]), (20, [2, 1], [30, 0, -1, 1, 9, 1, 0, 0]), (24, [0, 2], []), (101, [2, 12], [7]), (20, [2, 1], [30, 0, 1, 1, 9, -1, 0, 0]), (20, [2, 1], [30, 0, -1, 1, 9, 1, 0, 0]), (101, [2, 10], [6]), (1, [10, 3, 9], []), (9, [3, 2], [6]), (7, [3, 4], [2]), (9, [4, 2], [5]), (20, [2, 1], [30, 0, 1, 1, 9, -1, 0, 0]), (20, [2, 1], [30, 0, -1, 1, 9, 1, 0, 0]), (101, [2, 3], [8]), (7, [3, 4], [3]), (20, [2, 1], [30, 0, 1, 1, 9, -1, 0, 0]), (20, [2, 1], [30, 0, -1, 1, 9, 1, 0, 0])], [], [], [(20, [0, 0, 1], [31, 1, 3, 1, 1, 7, 0, 1, 1, 9, -1, 0, 0]), (20, [0, 0, 1], [31, 1, 3, 1, 1, 7, 0, -1, 1, 9, 1, 0, 0]), (20, [0, 0, 0, 0], [31, 1, -3, -1, 1, 7, 4008, 1, 1, 6, -1, 1, 8, 2000, 1, 7]), (20, [0, 0], [30, 0, 1, 1, 8, -1, 1, 6])], [], [(10, 3, 1, 1), (10, 4, -4294967296, 0), (10, 4, 1, 4294967296), (3, 4, -4294967296, -1), (3, 4, 0, 4294967296)])
theorem oo_Re_advance_1 {kA : Nat → ClassId} : or_ok PRD kA GG o_Re_advance_1 := by
  refine or_mk fun A ta ws vs hD hth hl => ?_
  intro t0 r0 t1 k1 t2 r2 t3 k3 t4 k4 t9 k9 t10 k10 t12 k12 d0 d1 d2 d3 d4 f0 f1 f2 ta1 w1 le1 s1 f4 f5 ta2 w2 le2 s2 f7 f8 f9 f10 f11 f12 ta3 w3 le3 s3 f14 f15 f16
  replace f2 := shm_5 f2
  have s1 : (∀ b j, w_el ws b j = w_el w1 b j) ∧ ∀ b j, w_fd ws b j = if b = v_ad (n_v vs 2) ∧ j = 7 then n_v vs 12 else w_fd w1 b j := s1.2
  have s2 : (∀ b j, w_el w1 b j = w_el w2 b j) ∧ ∀ b j, w_fd w1 b j = if b = v_ad (n_v vs 2) ∧ j = 6 then n_v vs 10 else w_fd w2 b j := s2.2
  have s3 : (∀ b j, w_el w2 b j = w_el w3 b j) ∧ ∀ b j, w_fd w2 b j = if b = v_ad (n_v vs 2) ∧ j = 8 then n_v vs 3 else w_fd w3 b j := s3.2
  have q2 : n_v vs 2 = n_v vs 0 := f2.symm
  rw [q2] at s1
  rw [q2] at s2
  rw [q2] at s3
  have fe_0_5_1 : w_fi ws (n_v vs 0) 5 = w_fi w1 (n_v vs 0) 5 := by show v_iv (w_fd _ _ _) = v_iv (w_fd _ _ _); rw [s1.2, if_neg (fun e => absurd e.2 (by decide))]
  have fe_0_6_1 : w_fi ws (n_v vs 0) 6 = w_fi w1 (n_v vs 0) 6 := by show v_iv (w_fd _ _ _) = v_iv (w_fd _ _ _); rw [s1.2, if_neg (fun e => absurd e.2 (by decide))]
  have fe_0_8_1 : w_fi ws (n_v vs 0) 8 = w_fi w1 (n_v vs 0) 8 := by show v_iv (w_fd _ _ _) = v_iv (w_fd _ _ _); rw [s1.2, if_neg (fun e => absurd e.2 (by decide))]
  have fe_0_9_1 : w_fi ws (n_v vs 0) 9 = w_fi w1 (n_v vs 0) 9 := by show v_iv (w_fd _ _ _) = v_iv (w_fd _ _ _); rw [s1.2, if_neg (fun e => absurd e.2 (by decide))]
  have fe_0_5_2 : w_fi w1 (n_v vs 0) 5 = w_fi w2 (n_v vs 0) 5 := by show v_iv (w_fd _ _ _) = v_iv (w_fd _ _ _); rw [s2.2, if_neg (fun e => absurd e.2 (by decide))]
  have fe_0_7_2 : w_fi w1 (n_v vs 0) 7 = w_fi w2 (n_v vs 0) 7 := by show v_iv (w_fd _ _ _) = v_iv (w_fd _ _ _); rw [s2.2, if_neg (fun e => absurd e.2 (by decide))]
  have fe_0_8_2 : w_fi w1 (n_v vs 0) 8 = w_fi w2 (n_v vs 0) 8 := by show v_iv (w_fd _ _ _) = v_iv (w_fd _ _ _); rw [s2.2, if_neg (fun e => absurd e.2 (by decide))]
  have fe_0_9_2 : w_fi w1 (n_v vs 0) 9 = w_fi w2 (n_v vs 0) 9 := by show v_iv (w_fd _ _ _) = v_iv (w_fd _ _ _); rw [s2.2, if_neg (fun e => absurd e.2 (by decide))]
  have fe_0_9_3 : w_fi w2 (n_v vs 0) 9 = w_fi w3 (n_v vs 0) 9 := by show v_iv (w_fd _ _ _) = v_iv (w_fd _ _ _); rw [s3.2, if_neg (fun e => absurd e.2 (by decide))]
  have kz_0_5 := fdq_28 hD hth r0
  have kz_0_6 := fdq_29 hD hth r0
  have kz_0_7 := fdq_30 hD hth r0
  have kz_0_8 := fdq_31 hD hth r0
  have kz_0_9 := fdq_27 hD hth r0
  have nf0 : fc_1 PRD (20, [0, 0, 1], [31, 1, 3, 1, 1, 7, 0, 1, 1, 9, -1, 0, 0]) ws (vs) := ⟨nf_in hl rfl, sgq_201 (vc_Re_advance_1_0 (v_iv (n_v vs 1)) (v_iv (n_v vs 4)) (v_iv (n_v vs 10)) (w_fi ws (n_v vs 0) 9) (w_fi w1 (n_v vs 0) 9) (w_fi w2 (n_v vs 0) 5) (w_fi w2 (n_v vs 0) 9) (w_fi w3 (n_v vs 0) 9) (w_fi ws (n_v vs 0) 5) (w_fi w1 (n_v vs 0) 5) (w_fi ws (n_v vs 0) 6) (w_fi w1 (n_v vs 0) 6) (w_fi ws (n_v vs 0) 7) (w_fi ws (n_v vs 0) 8) (w_fi w1 (n_v vs 0) 8) (w_fi w1 (n_v vs 0) 7) (w_fi w2 (n_v vs 0) 7) (w_fi w2 (n_v vs 0) 8) k1 k4 k10 d1 d2 fe_0_5_1 fe_0_6_1 fe_0_8_1 fe_0_9_1 fe_0_5_2 fe_0_7_2 fe_0_8_2 fe_0_9_2 fe_0_9_3 kz_0_5 kz_0_6 kz_0_7 kz_0_8 kz_0_9)⟩
  have nf1 : fc_1 PRD (20, [0, 0, 1], [31, 1, 3, 1, 1, 7, 0, -1, 1, 9, 1, 0, 0]) ws (vs) := ⟨nf_in hl rfl, sgq_202 (vc_Re_advance_1_1 (v_iv (n_v vs 1)) (v_iv (n_v vs 4)) (v_iv (n_v vs 10)) (w_fi ws (n_v vs 0) 9) (w_fi w1 (n_v vs 0) 9) (w_fi w2 (n_v vs 0) 5) (w_fi w2 (n_v vs 0) 9) (w_fi w3 (n_v vs 0) 9) (w_fi ws (n_v vs 0) 5) (w_fi w1 (n_v vs 0) 5) (w_fi ws (n_v vs 0) 6) (w_fi w1 (n_v vs 0) 6) (w_fi ws (n_v vs 0) 7) (w_fi ws (n_v vs 0) 8) (w_fi w1 (n_v vs 0) 8) (w_fi w1 (n_v vs 0) 7) (w_fi w2 (n_v vs 0) 7) (w_fi w2 (n_v vs 0) 8) k1 k4 k10 d1 d2 fe_0_5_1 fe_0_6_1 fe_0_8_1 fe_0_9_1 fe_0_5_2 fe_0_7_2 fe_0_8_2 fe_0_9_2 fe_0_9_3 kz_0_5 kz_0_6 kz_0_7 kz_0_8 kz_0_9)⟩
  have nf2 : fc_1 PRD (20, [0, 0, 0, 0], [31, 1, -3, -1, 1, 7, 4008, 1, 1, 6, -1, 1, 8, 2000, 1, 7]) ws (vs) := ⟨nf_in hl rfl, sgq_203 (vc_Re_advance_1_2 (v_iv (n_v vs 4)) (v_iv (n_v vs 10)) (w_fi ws (n_v vs 0) 9) (w_fi w1 (n_v vs 0) 9) (w_fi w2 (n_v vs 0) 5) (w_fi w2 (n_v vs 0) 9) (w_fi w3 (n_v vs 0) 9) (w_fi ws (n_v vs 0) 5) (w_fi w1 (n_v vs 0) 5) (w_fi ws (n_v vs 0) 6) (w_fi w1 (n_v vs 0) 6) (w_fi ws (n_v vs 0) 7) (w_fi ws (n_v vs 0) 8) (w_fi w1 (n_v vs 0) 8) (w_fi w1 (n_v vs 0) 7) (w_fi w2 (n_v vs 0) 7) (w_fi w2 (n_v vs 0) 8) k4 k10 d1 d2 fe_0_5_1 fe_0_6_1 fe_0_8_1 fe_0_9_1 fe_0_5_2 fe_0_7_2 fe_0_8_2 fe_0_9_2 fe_0_9_3 kz_0_5 kz_0_6 kz_0_7 kz_0_8 kz_0_9)⟩
  have nf3 : fc_1 PRD (20, [0, 0], [30, 0, 1, 1, 8, -1, 1, 6]) ws (vs) := ⟨nf_in hl rfl, sgq_204 (vc_Re_advance_1_3 (v_iv (n_v vs 4)) (v_iv (n_v vs 10)) (w_fi ws (n_v vs 0) 9) (w_fi w1 (n_v vs 0) 9) (w_fi w2 (n_v vs 0) 5) (w_fi w2 (n_v vs 0) 9) (w_fi w3 (n_v vs 0) 9) (w_fi ws (n_v vs 0) 5) (w_fi w1 (n_v vs 0) 5) (w_fi ws (n_v vs 0) 6) (w_fi w1 (n_v vs 0) 6) (w_fi ws (n_v vs 0) 8) (w_fi w1 (n_v vs 0) 8) (w_fi w1 (n_v vs 0) 7) (w_fi w2 (n_v vs 0) 7) (w_fi w2 (n_v vs 0) 8) k4 k10 d1 d2 fe_0_5_1 fe_0_6_1 fe_0_8_1 fe_0_9_1 fe_0_5_2 fe_0_7_2 fe_0_8_2 fe_0_9_2 fe_0_9_3 kz_0_5 kz_0_6 kz_0_8 kz_0_9)⟩
  refine ⟨(fun _ h => (by cases h)), [], trivial, ?_, (fun _ h => (by cases h))⟩
  rw [List.append_nil]
  exact List.forall_mem_cons.mpr ⟨⟨show (20 : Nat) < 100 from by decide, nf0⟩, List.forall_mem_cons.mpr ⟨⟨show (20 : Nat) < 100 from by decide, nf1⟩, List.forall_mem_cons.mpr ⟨⟨show (20 : Nat) < 100 from by decide, nf2⟩, List.forall_mem_cons.mpr ⟨⟨show (20 : Nat) < 100 from by decide, nf3⟩, (fun _ h => (by cases h))⟩⟩⟩⟩
def o_Re_advance_2 : or_T := (290, 12, [(0, (2, 0, 0, [8])), (1, (0, -2147483648, 1000000, [])), (2, (2, 0, 0, [8])), (3, (0, 1, 1999, [])), (4, (0, 1, 1999, [])), (5, (2, 0, 0, [109])), (6, (0, -128, 47, [])), (9, (0, 1, 1, [])), (10, (0, 2, 2000, []))], [(20, [2, 1], [30, 0, 1, 1, 9, -1, 0, 0]), (20, [2, 1], [30, 0, -1, 1, 9, 1, 0, 0]), (24, [0, 2], []), (101, [2, 6], [7]), (20, [2, 1], [30, 0, 1, 1, 9, -1, 0, 0]), (20, [2, 1], [30, 0, -1, 1, 9, 1, 0, 0]), (101, [2, 10], [6]), (1, [10, 3, 9], []), (9, [3, 2], [6]), (10, [6, 5, 3], []), (9, [5, 2], [0]), (7, [3, 4], [2]), (9, [4, 2], [5]), (20, [2, 1], [30, 0, 1, 1, 9, -1, 0, 0]), (20, [2, 1], [30, 0, -1, 1, 9, 1, 0, 0]), (101, [2, 3], [8]), (7, [3, 4], [3]), (20, [2, 1], [30, 0, 1, 1, 9, -1, 0, 0]), (20, [2, 1], [30, 0, -1, 1, 9, 1, 0, 0])], [], [], [(20, [0, 0, 1], [31, 1, 3, 1, 1, 7, 0, 1, 1, 9, -1, 0, 0]), (20, [0, 0, 1], [31, 1, 3, 1, 1, 7, 0, -1, 1, 9, 1, 0, 0]), (20, [0, 0, 0, 0], [31, 1, -3, -1, 1, 7, 4008, 1, 1, 6, -1, 1, 8, 2000, 1, 7]), (20, [0, 0], [30, 0, 1, 1, 8, -1, 1, 6])], [], [(10, 3, 1, 1), (10, 4, -4294967296, 0), (10, 4, 1, 4294967296), (3, 4, -4294967296, -1), (3, 4, 0, 4294967296)])
theorem oo_Re_advance_2 {kA : Nat → ClassId} : or_ok PRD kA GG o_Re_advance_2 := by
  refine or_mk fun A ta ws vs hD hth hl => ?_
  intro t0 r0 t1 k1 t2 r2 t3 k3 t4 k4 t5 r5 t6 k6 t9 k9 t10 k10 d0 d1 d2 d3 d4 f0 f1 f2 ta1 w1 le1 s1 f4 f5 ta2 w2 le2 s2 f7 f8 f9 f10 f11 f12 f13 f14 ta3 w3 le3 s3 f16 f17 f18
  replace f0 := shm_199 f0
  replace f1 := shm_200 f1
  replace f2 := shm_5 f2
  have s1 : (∀ b j, w_el ws b j = w_el w1 b j) ∧ ∀ b j, w_fd ws b j = if b = v_ad (n_v vs 2) ∧ j = 7 then n_v vs 6 else w_fd w1 b j := s1.2
  replace f4 := shm_199 f4
  replace f5 := shm_200 f5
  have s2 : (∀ b j, w_el w1 b j = w_el w2 b j) ∧ ∀ b j, w_fd w1 b j = if b = v_ad (n_v vs 2) ∧ j = 6 then n_v vs 10 else w_fd w2 b j := s2.2
  replace f7 := shm_12 f7
  replace f8 := shm_110 f8
  replace f9 := shm_106 f9
  replace f10 := shm_175 f10
  replace f11 := shm_6 f11
  replace f12 := shm_109 f12
  replace f13 := shm_199 f13
  replace f14 := shm_200 f14
  have s3 : (∀ b j, w_el w2 b j = w_el w3 b j) ∧ ∀ b j, w_fd w2 b j = if b = v_ad (n_v vs 2) ∧ j = 8 then n_v vs 3 else w_fd w3 b j := s3.2
  replace f16 := shm_2 f16
  replace f17 := shm_199 f17
  replace f18 := shm_200 f18
  have q2 : n_v vs 2 = n_v vs 0 := f2.symm
  simp only [q2] at f0 f1
  rw [q2] at s1
  simp only [q2] at f4 f5
  rw [q2] at s2
  simp only [q2] at f8 f10 f12 f13 f14
  rw [q2] at s3
  simp only [q2] at f17 f18
  have ar_0_0_1 : w_ar w1 (n_v vs 0) 0 = w_ar ws (n_v vs 0) 0 := by show v_ad (w_fd w1 _ _) = v_ad (w_fd ws _ _); rw [s1.2, if_neg (fun e => absurd e.2 (by decide))]
  have ar_0_0_2 : w_ar w2 (n_v vs 0) 0 = w_ar ws (n_v vs 0) 0 := by rw [← ar_0_0_1]; show v_ad (w_fd w2 _ _) = v_ad (w_fd w1 _ _); rw [s2.2, if_neg (fun e => absurd e.2 (by decide))]
  have ar_0_0_3 : w_ar w3 (n_v vs 0) 0 = w_ar ws (n_v vs 0) 0 := by rw [← ar_0_0_2]; show v_ad (w_fd w3 _ _) = v_ad (w_fd w2 _ _); rw [s3.2, if_neg (fun e => absurd e.2 (by decide))]
  have cr_0_0 := fdq_32 hD hth r0
  have ad_5 : v_ad (n_v vs 5) = w_ar ws (n_v vs 0) 0 := (congrArg v_ad f10).trans ar_0_0_2
  have g8 : v_iv (n_v vs 3) = w_fi w2 (n_v vs 0) 6 := congrArg v_iv f8
  simp only [ad_5] at f9
  have h9 : v_iv (n_v vs 6) = w_ei w2 (w_ar ws (n_v vs 0) 0) (v_iv (n_v vs 3)) := f9
  have g12 : v_iv (n_v vs 4) = w_fi w2 (n_v vs 0) 5 := congrArg v_iv f12
  have fe_0_5_1 : w_fi ws (n_v vs 0) 5 = w_fi w1 (n_v vs 0) 5 := by show v_iv (w_fd _ _ _) = v_iv (w_fd _ _ _); rw [s1.2, if_neg (fun e => absurd e.2 (by decide))]
  have fe_0_6_1 : w_fi ws (n_v vs 0) 6 = w_fi w1 (n_v vs 0) 6 := by show v_iv (w_fd _ _ _) = v_iv (w_fd _ _ _); rw [s1.2, if_neg (fun e => absurd e.2 (by decide))]
  have fe_0_7_1 : w_fi ws (n_v vs 0) 7 = v_iv (n_v vs 6) := by show v_iv (w_fd _ _ _) = _; rw [s1.2, if_pos ⟨rfl, rfl⟩]
  have fe_0_8_1 : w_fi ws (n_v vs 0) 8 = w_fi w1 (n_v vs 0) 8 := by show v_iv (w_fd _ _ _) = v_iv (w_fd _ _ _); rw [s1.2, if_neg (fun e => absurd e.2 (by decide))]
  have fe_0_9_1 : w_fi ws (n_v vs 0) 9 = w_fi w1 (n_v vs 0) 9 := by show v_iv (w_fd _ _ _) = v_iv (w_fd _ _ _); rw [s1.2, if_neg (fun e => absurd e.2 (by decide))]
  have ee_0_0_3_1 : w_el ws (w_ar ws (n_v vs 0) 0) (v_iv (n_v vs 3)).toNat = w_el w1 (w_ar ws (n_v vs 0) 0) (v_iv (n_v vs 3)).toNat := s1.1 _ _
  have fe_0_5_2 : w_fi w1 (n_v vs 0) 5 = w_fi w2 (n_v vs 0) 5 := by show v_iv (w_fd _ _ _) = v_iv (w_fd _ _ _); rw [s2.2, if_neg (fun e => absurd e.2 (by decide))]
  have fe_0_6_2 : w_fi w1 (n_v vs 0) 6 = v_iv (n_v vs 10) := by show v_iv (w_fd _ _ _) = _; rw [s2.2, if_pos ⟨rfl, rfl⟩]
  have fe_0_7_2 : w_fi w1 (n_v vs 0) 7 = w_fi w2 (n_v vs 0) 7 := by show v_iv (w_fd _ _ _) = v_iv (w_fd _ _ _); rw [s2.2, if_neg (fun e => absurd e.2 (by decide))]
  have fe_0_8_2 : w_fi w1 (n_v vs 0) 8 = w_fi w2 (n_v vs 0) 8 := by show v_iv (w_fd _ _ _) = v_iv (w_fd _ _ _); rw [s2.2, if_neg (fun e => absurd e.2 (by decide))]
  have fe_0_9_2 : w_fi w1 (n_v vs 0) 9 = w_fi w2 (n_v vs 0) 9 := by show v_iv (w_fd _ _ _) = v_iv (w_fd _ _ _); rw [s2.2, if_neg (fun e => absurd e.2 (by decide))]
  have ee_0_0_3_2 : w_el w1 (w_ar ws (n_v vs 0) 0) (v_iv (n_v vs 3)).toNat = w_el w2 (w_ar ws (n_v vs 0) 0) (v_iv (n_v vs 3)).toNat := s2.1 _ _
  have fe_0_5_3 : w_fi w2 (n_v vs 0) 5 = w_fi w3 (n_v vs 0) 5 := by show v_iv (w_fd _ _ _) = v_iv (w_fd _ _ _); rw [s3.2, if_neg (fun e => absurd e.2 (by decide))]
  have fe_0_6_3 : w_fi w2 (n_v vs 0) 6 = w_fi w3 (n_v vs 0) 6 := by show v_iv (w_fd _ _ _) = v_iv (w_fd _ _ _); rw [s3.2, if_neg (fun e => absurd e.2 (by decide))]
  have fe_0_7_3 : w_fi w2 (n_v vs 0) 7 = w_fi w3 (n_v vs 0) 7 := by show v_iv (w_fd _ _ _) = v_iv (w_fd _ _ _); rw [s3.2, if_neg (fun e => absurd e.2 (by decide))]
  have fe_0_8_3 : w_fi w2 (n_v vs 0) 8 = v_iv (n_v vs 3) := by show v_iv (w_fd _ _ _) = _; rw [s3.2, if_pos ⟨rfl, rfl⟩]
  have fe_0_9_3 : w_fi w2 (n_v vs 0) 9 = w_fi w3 (n_v vs 0) 9 := by show v_iv (w_fd _ _ _) = v_iv (w_fd _ _ _); rw [s3.2, if_neg (fun e => absurd e.2 (by decide))]
  have ee_0_0_3_3 : w_el w2 (w_ar ws (n_v vs 0) 0) (v_iv (n_v vs 3)).toNat = w_el w3 (w_ar ws (n_v vs 0) 0) (v_iv (n_v vs 3)).toNat := s3.1 _ _
  have kz_0_5 := fdq_28 hD hth r0
  have kz_0_6 := fdq_29 hD hth r0
  have kz_0_7 := fdq_30 hD hth r0
  have kz_0_8 := fdq_31 hD hth r0
  have kz_0_9 := fdq_27 hD hth r0
  have nf0 : fc_1 PRD (20, [0, 0, 1], [31, 1, 3, 1, 1, 7, 0, 1, 1, 9, -1, 0, 0]) ws (vs) := by
    refine ⟨nf_in hl rfl, sgq_201 ?_⟩
    · show (1 * w_fi ws (n_v vs 0) 7 + 0 ≤ 3) ∨ (1 * w_fi ws (n_v vs 0) 9 + ((-1) * v_iv (n_v vs 1) + 0) ≤ 0)
      omega
  have nf1 : fc_1 PRD (20, [0, 0, 1], [31, 1, 3, 1, 1, 7, 0, -1, 1, 9, 1, 0, 0]) ws (vs) := by
    refine ⟨nf_in hl rfl, sgq_202 ?_⟩
    · show (1 * w_fi ws (n_v vs 0) 7 + 0 ≤ 3) ∨ ((-1) * w_fi ws (n_v vs 0) 9 + (1 * v_iv (n_v vs 1) + 0) ≤ 0)
      omega
  have nf2 : fc_1 PRD (20, [0, 0, 0, 0], [31, 1, -3, -1, 1, 7, 4008, 1, 1, 6, -1, 1, 8, 2000, 1, 7]) ws (vs) := by
    refine ⟨nf_in hl rfl, sgq_203 ?_⟩
    · show ((-1) * w_fi ws (n_v vs 0) 7 + 0 ≤ (-3)) ∨ (1 * w_fi ws (n_v vs 0) 6 + ((-1) * w_fi ws (n_v vs 0) 8 + (2000 * w_fi ws (n_v vs 0) 7 + 0)) ≤ 4008)
      omega
  have nf3 : fc_1 PRD (20, [0, 0], [30, 0, 1, 1, 8, -1, 1, 6]) ws (vs) := by
    refine ⟨nf_in hl rfl, sgq_204 ?_⟩
    · show 1 * w_fi ws (n_v vs 0) 8 + ((-1) * w_fi ws (n_v vs 0) 6 + 0) ≤ 0
      omega
  refine ⟨(fun _ h => (by cases h)), [], trivial, ?_, (fun _ h => (by cases h))⟩
  rw [List.append_nil]
  exact List.forall_mem_cons.mpr ⟨⟨show (20 : Nat) < 100 from by decide, nf0⟩, List.forall_mem_cons.mpr ⟨⟨show (20 : Nat) < 100 from by decide, nf1⟩, List.forall_mem_cons.mpr ⟨⟨show (20 : Nat) < 100 from by decide, nf2⟩, List.forall_mem_cons.mpr ⟨⟨show (20 : Nat) < 100 from by decide, nf3⟩, (fun _ h => (by cases h))⟩⟩⟩⟩
def o_Re_advance_3 : or_T := (290, 12, [(0, (2, 0, 0, [8])), (1, (0, -2147483648, 1000000, [])), (2, (2, 0, 0, [8])), (3, (0, 1, 1999, [])), (4, (0, 1, 1999, [])), (5, (2, 0, 0, [109])), (6, (0, 58, 64, [])), (9, (0, 1, 1, [])), (10, (0, 2, 2000, []))], [(20, [2, 1], [30, 0, 1, 1, 9, -1, 0, 0]), (20, [2, 1], [30, 0, -1, 1, 9, 1, 0, 0]), (24, [0, 2], []), (101, [2, 6], [7]), (20, [2, 1], [30, 0, 1, 1, 9, -1, 0, 0]), (20, [2, 1], [30, 0, -1, 1, 9, 1, 0, 0]), (101, [2, 10], [6]), (1, [10, 3, 9], []), (9, [3, 2], [6]), (10, [6, 5, 3], []), (9, [5, 2], [0]), (7, [3, 4], [2]), (9, [4, 2], [5]), (20, [2, 1], [30, 0, 1, 1, 9, -1, 0, 0]), (20, [2, 1], [30, 0, -1, 1, 9, 1, 0, 0]), (101, [2, 3], [8]), (7, [3, 4], [3]), (20, [2, 1], [30, 0, 1, 1, 9, -1, 0, 0]), (20, [2, 1], [30, 0, -1, 1, 9, 1, 0, 0])], [], [], [(20, [0, 0, 1], [31, 1, 3, 1, 1, 7, 0, 1, 1, 9, -1, 0, 0]), (20, [0, 0, 1], [31, 1, 3, 1, 1, 7, 0, -1, 1, 9, 1, 0, 0]), (20, [0, 0, 0, 0], [31, 1, -3, -1, 1, 7, 4008, 1, 1, 6, -1, 1, 8, 2000, 1, 7]), (20, [0, 0], [30, 0, 1, 1, 8, -1, 1, 6])], [], [(10, 3, 1, 1), (10, 4, -4294967296, 0), (10, 4, 1, 4294967296), (3, 4, -4294967296, -1), (3, 4, 0, 4294967296)])
theorem oo_Re_advance_3 {kA : Nat → ClassId} : or_ok PRD kA GG o_Re_advance_3 := by
  refine or_mk fun A ta ws vs hD hth hl => ?_
  intro t0 r0 t1 k1 t2 r2 t3 k3 t4 k4 t5 r5 t6 k6 t9 k9 t10 k10 d0 d1 d2 d3 d4 f0 f1 f2 ta1 w1 le1 s1 f4 f5 ta2 w2 le2 s2 f7 f8 f9 f10 f11 f12 f13 f14 ta3 w3 le3 s3 f16 f17 f18
  replace f0 := shm_199 f0
  replace f1 := shm_200 f1
  replace f2 := shm_5 f2
  have s1 : (∀ b j, w_el ws b j = w_el w1 b j) ∧ ∀ b j, w_fd ws b j = if b = v_ad (n_v vs 2) ∧ j = 7 then n_v vs 6 else w_fd w1 b j := s1.2
  replace f4 := shm_199 f4
  replace f5 := shm_200 f5
  have s2 : (∀ b j, w_el w1 b j = w_el w2 b j) ∧ ∀ b j, w_fd w1 b j = if b = v_ad (n_v vs 2) ∧ j = 6 then n_v vs 10 else w_fd w2 b j := s2.2
  replace f7 := shm_12 f7
  replace f8 := shm_110 f8
  replace f9 := shm_106 f9
  replace f10 := shm_175 f10
  replace f11 := shm_6 f11
  replace f12 := shm_109 f12
  replace f13 := shm_199 f13
  replace f14 := shm_200 f14
  have s3 : (∀ b j, w_el w2 b j = w_el w3 b j) ∧ ∀ b j, w_fd w2 b j = if b = v_ad (n_v vs 2) ∧ j = 8 then n_v vs 3 else w_fd w3 b j := s3.2
  replace f16 := shm_2 f16
  replace f17 := shm_199 f17
  replace f18 := shm_200 f18
  have q2 : n_v vs 2 = n_v vs 0 := f2.symm
  simp only [q2] at f0 f1
  rw [q2] at s1
  simp only [q2] at f4 f5
  rw [q2] at s2
  simp only [q2] at f8 f10 f12 f13 f14
  rw [q2] at s3
  simp only [q2] at f17 f18
  have ar_0_0_1 : w_ar w1 (n_v vs 0) 0 = w_ar ws (n_v vs 0) 0 := by show v_ad (w_fd w1 _ _) = v_ad (w_fd ws _ _); rw [s1.2, if_neg (fun e => absurd e.2 (by decide))]
  have ar_0_0_2 : w_ar w2 (n_v vs 0) 0 = w_ar ws (n_v vs 0) 0 := by rw [← ar_0_0_1]; show v_ad (w_fd w2 _ _) = v_ad (w_fd w1 _ _); rw [s2.2, if_neg (fun e => absurd e.2 (by decide))]
  have ar_0_0_3 : w_ar w3 (n_v vs 0) 0 = w_ar ws (n_v vs 0) 0 := by rw [← ar_0_0_2]; show v_ad (w_fd w3 _ _) = v_ad (w_fd w2 _ _); rw [s3.2, if_neg (fun e => absurd e.2 (by decide))]
  have cr_0_0 := fdq_32 hD hth r0
  have ad_5 : v_ad (n_v vs 5) = w_ar ws (n_v vs 0) 0 := (congrArg v_ad f10).trans ar_0_0_2
  have g8 : v_iv (n_v vs 3) = w_fi w2 (n_v vs 0) 6 := congrArg v_iv f8
  simp only [ad_5] at f9
  have h9 : v_iv (n_v vs 6) = w_ei w2 (w_ar ws (n_v vs 0) 0) (v_iv (n_v vs 3)) := f9
  have g12 : v_iv (n_v vs 4) = w_fi w2 (n_v vs 0) 5 := congrArg v_iv f12
  have fe_0_5_1 : w_fi ws (n_v vs 0) 5 = w_fi w1 (n_v vs 0) 5 := by show v_iv (w_fd _ _ _) = v_iv (w_fd _ _ _); rw [s1.2, if_neg (fun e => absurd e.2 (by decide))]
  have fe_0_6_1 : w_fi ws (n_v vs 0) 6 = w_fi w1 (n_v vs 0) 6 := by show v_iv (w_fd _ _ _) = v_iv (w_fd _ _ _); rw [s1.2, if_neg (fun e => absurd e.2 (by decide))]
  have fe_0_7_1 : w_fi ws (n_v vs 0) 7 = v_iv (n_v vs 6) := by show v_iv (w_fd _ _ _) = _; rw [s1.2, if_pos ⟨rfl, rfl⟩]
  have fe_0_8_1 : w_fi ws (n_v vs 0) 8 = w_fi w1 (n_v vs 0) 8 := by show v_iv (w_fd _ _ _) = v_iv (w_fd _ _ _); rw [s1.2, if_neg (fun e => absurd e.2 (by decide))]
  have fe_0_9_1 : w_fi ws (n_v vs 0) 9 = w_fi w1 (n_v vs 0) 9 := by show v_iv (w_fd _ _ _) = v_iv (w_fd _ _ _); rw [s1.2, if_neg (fun e => absurd e.2 (by decide))]
  have ee_0_0_3_1 : w_el ws (w_ar ws (n_v vs 0) 0) (v_iv (n_v vs 3)).toNat = w_el w1 (w_ar ws (n_v vs 0) 0) (v_iv (n_v vs 3)).toNat := s1.1 _ _
  have fe_0_5_2 : w_fi w1 (n_v vs 0) 5 = w_fi w2 (n_v vs 0) 5 := by show v_iv (w_fd _ _ _) = v_iv (w_fd _ _ _); rw [s2.2, if_neg (fun e => absurd e.2 (by decide))]
  have fe_0_6_2 : w_fi w1 (n_v vs 0) 6 = v_iv (n_v vs 10) := by show v_iv (w_fd _ _ _) = _; rw [s2.2, if_pos ⟨rfl, rfl⟩]
  have fe_0_7_2 : w_fi w1 (n_v vs 0) 7 = w_fi w2 (n_v vs 0) 7 := by show v_iv (w_fd _ _ _) = v_iv (w_fd _ _ _); rw [s2.2, if_neg (fun e => absurd e.2 (by decide))]
  have fe_0_8_2 : w_fi w1 (n_v vs 0) 8 = w_fi w2 (n_v vs 0) 8 := by show v_iv (w_fd _ _ _) = v_iv (w_fd _ _ _); rw [s2.2, if_neg (fun e => absurd e.2 (by decide))]
  have fe_0_9_2 : w_fi w1 (n_v vs 0) 9 = w_fi w2 (n_v vs 0) 9 := by show v_iv (w_fd _ _ _) = v_iv (w_fd _ _ _); rw [s2.2, if_neg (fun e => absurd e.2 (by decide))]
  have ee_0_0_3_2 : w_el w1 (w_ar ws (n_v vs 0) 0) (v_iv (n_v vs 3)).toNat = w_el w2 (w_ar ws (n_v vs 0) 0) (v_iv (n_v vs 3)).toNat := s2.1 _ _
  have fe_0_5_3 : w_fi w2 (n_v vs 0) 5 = w_fi w3 (n_v vs 0) 5 := by show v_iv (w_fd _ _ _) = v_iv (w_fd _ _ _); rw [s3.2, if_neg (fun e => absurd e.2 (by decide))]
  have fe_0_6_3 : w_fi w2 (n_v vs 0) 6 = w_fi w3 (n_v vs 0) 6 := by show v_iv (w_fd _ _ _) = v_iv (w_fd _ _ _); rw [s3.2, if_neg (fun e => absurd e.2 (by decide))]
  have fe_0_7_3 : w_fi w2 (n_v vs 0) 7 = w_fi w3 (n_v vs 0) 7 := by show v_iv (w_fd _ _ _) = v_iv (w_fd _ _ _); rw [s3.2, if_neg (fun e => absurd e.2 (by decide))]
  have fe_0_8_3 : w_fi w2 (n_v vs 0) 8 = v_iv (n_v vs 3) := by show v_iv (w_fd _ _ _) = _; rw [s3.2, if_pos ⟨rfl, rfl⟩]
  have fe_0_9_3 : w_fi w2 (n_v vs 0) 9 = w_fi w3 (n_v vs 0) 9 := by show v_iv (w_fd _ _ _) = v_iv (w_fd _ _ _); rw [s3.2, if_neg (fun e => absurd e.2 (by decide))]
  have ee_0_0_3_3 : w_el w2 (w_ar ws (n_v vs 0) 0) (v_iv (n_v vs 3)).toNat = w_el w3 (w_ar ws (n_v vs 0) 0) (v_iv (n_v vs 3)).toNat := s3.1 _ _
  have kz_0_5 := fdq_28 hD hth r0
  have kz_0_6 := fdq_29 hD hth r0
  have kz_0_7 := fdq_30 hD hth r0
  have kz_0_8 := fdq_31 hD hth r0
  have kz_0_9 := fdq_27 hD hth r0
  have nf0 : fc_1 PRD (20, [0, 0, 1], [31, 1, 3, 1, 1, 7, 0, 1, 1, 9, -1, 0, 0]) ws (vs) := by
    refine ⟨nf_in hl rfl, sgq_201 ?_⟩
    · show (1 * w_fi ws (n_v vs 0) 7 + 0 ≤ 3) ∨ (1 * w_fi ws (n_v vs 0) 9 + ((-1) * v_iv (n_v vs 1) + 0) ≤ 0)
      omega
  have nf1 : fc_1 PRD (20, [0, 0, 1], [31, 1, 3, 1, 1, 7, 0, -1, 1, 9, 1, 0, 0]) ws (vs) := by
    refine ⟨nf_in hl rfl, sgq_202 ?_⟩
    · show (1 * w_fi ws (n_v vs 0) 7 + 0 ≤ 3) ∨ ((-1) * w_fi ws (n_v vs 0) 9 + (1 * v_iv (n_v vs 1) + 0) ≤ 0)
      omega
  have nf2 : fc_1 PRD (20, [0, 0, 0, 0], [31, 1, -3, -1, 1, 7, 4008, 1, 1, 6, -1, 1, 8, 2000, 1, 7]) ws (vs) := by
    refine ⟨nf_in hl rfl, sgq_203 ?_⟩
    · show ((-1) * w_fi ws (n_v vs 0) 7 + 0 ≤ (-3)) ∨ (1 * w_fi ws (n_v vs 0) 6 + ((-1) * w_fi ws (n_v vs 0) 8 + (2000 * w_fi ws (n_v vs 0) 7 + 0)) ≤ 4008)
      omega
  have nf3 : fc_1 PRD (20, [0, 0], [30, 0, 1, 1, 8, -1, 1, 6]) ws (vs) := by
    refine ⟨nf_in hl rfl, sgq_204 ?_⟩
    · show 1 * w_fi ws (n_v vs 0) 8 + ((-1) * w_fi ws (n_v vs 0) 6 + 0) ≤ 0
      omega
  refine ⟨(fun _ h => (by cases h)), [], trivial, ?_, (fun _ h => (by cases h))⟩
  rw [List.append_nil]
  exact List.forall_mem_cons.mpr ⟨⟨show (20 : Nat) < 100 from by decide, nf0⟩, List.forall_mem_cons.mpr ⟨⟨show (20 : Nat) < 100 from by decide, nf1⟩, List.forall_mem_cons.mpr ⟨⟨show (20 : Nat) < 100 from by decide, nf2⟩, List.forall_mem_cons.mpr ⟨⟨show (20 : Nat) < 100 from by decide, nf3⟩, (fun _ h => (by cases h))⟩⟩⟩⟩
set_option maxHeartbeats 4000000 in
theorem vc_Re_advance_4_0 (x3 : Int) (x4 : Int) (next_1 : Int) (end_1 : Int) (number_1 : Int) (number_2 : Int) (end_0 : Int) (next_0 : Int) (begin_0 : Int) (begin_1 : Int) (k3 : 1 ≤ x3 ∧ x3 ≤ 1999) (k4 : 1 ≤ x4 ∧ x4 ≤ 1999) (d0 : x4 + (-4294967296) ≤ x3 ∧ x3 ≤ x4 + (-1)) (d1 : x4 + 0 ≤ x3 ∧ x3 ≤ x4 + 4294967296) (fe_0_5_1 : end_0 = end_1) (fe_0_6_1 : next_0 = next_1) (fe_0_8_1 : begin_0 = begin_1) (fe_0_9_2 : number_1 = number_2) (kz_0_5 : 0 ≤ end_0 ∧ end_0 ≤ 2000) (kz_0_6 : 0 ≤ next_0 ∧ next_0 ≤ 2000) (kz_0_8 : 0 ≤ begin_0 ∧ begin_0 ≤ 2000) : 1 * begin_0 + ((-1) * next_0 + 0) ≤ 0 := by
  subst fe_0_5_1
  subst fe_0_6_1
  subst fe_0_8_1
  subst fe_0_9_2
  first | assumption | omega | grind
def o_Re_advance_4 : or_T := (171, 10, [(0, (2, 0, 0, [8])), (3, (0, 1, 1999, [])), (4, (0, 1, 1999, []))], [(24, [0, 2], []), (101, [2, 9], [9]), (101, [2, 3], [8])], [], [], [(20, [2, 2], [30, 0, 1, 1, 8, -1, 1, 6])], [], [(3, 4, -4294967296, -1), (3, 4, 0, 4294967296)])
theorem oo_Re_advance_4 {kA : Nat → ClassId} : or_ok PRD kA GG o_Re_advance_4 := by
  refine or_mk fun A ta ws vs hD hth hl => ?_
  intro t0 r0 t3 k3 t4 k4 d0 d1 f0 ta1 w1 le1 s1 ta2 w2 le2 s2
  replace f0 := shm_5 f0
  have s1 : (∀ b j, w_el ws b j = w_el w1 b j) ∧ ∀ b j, w_fd ws b j = if b = v_ad (n_v vs 2) ∧ j = 9 then n_v vs 9 else w_fd w1 b j := s1.2
  have s2 : (∀ b j, w_el w1 b j = w_el w2 b j) ∧ ∀ b j, w_fd w1 b j = if b = v_ad (n_v vs 2) ∧ j = 8 then n_v vs 3 else w_fd w2 b j := s2.2
  have q2 : n_v vs 2 = n_v vs 0 := f0.symm
  rw [q2] at s1
  rw [q2] at s2
  have fe_0_5_1 : w_fi ws (n_v vs 0) 5 = w_fi w1 (n_v vs 0) 5 := by show v_iv (w_fd _ _ _) = v_iv (w_fd _ _ _); rw [s1.2, if_neg (fun e => absurd e.2 (by decide))]
  have fe_0_6_1 : w_fi ws (n_v vs 0) 6 = w_fi w1 (n_v vs 0) 6 := by show v_iv (w_fd _ _ _) = v_iv (w_fd _ _ _); rw [s1.2, if_neg (fun e => absurd e.2 (by decide))]
  have fe_0_8_1 : w_fi ws (n_v vs 0) 8 = w_fi w1 (n_v vs 0) 8 := by show v_iv (w_fd _ _ _) = v_iv (w_fd _ _ _); rw [s1.2, if_neg (fun e => absurd e.2 (by decide))]
  have fe_0_9_2 : w_fi w1 (n_v vs 0) 9 = w_fi w2 (n_v vs 0) 9 := by show v_iv (w_fd _ _ _) = v_iv (w_fd _ _ _); rw [s2.2, if_neg (fun e => absurd e.2 (by decide))]
  have kz_0_5 := fdq_28 hD hth r0
  have kz_0_6 := fdq_29 hD hth r0
  have kz_0_8 := fdq_31 hD hth r0
  have nf0 : fc_1 PRD (20, [2, 2], [30, 0, 1, 1, 8, -1, 1, 6]) ws (vs) := by
    refine ⟨nf_in hl rfl, sgq_204 ?_⟩
    · show 1 * w_fi ws (n_v vs 2) 8 + ((-1) * w_fi ws (n_v vs 2) 6 + 0) ≤ 0
      rw [q2]
      exact vc_Re_advance_4_0 (v_iv (n_v vs 3)) (v_iv (n_v vs 4)) (w_fi w1 (n_v vs 0) 6) (w_fi w1 (n_v vs 0) 5) (w_fi w1 (n_v vs 0) 9) (w_fi w2 (n_v vs 0) 9) (w_fi ws (n_v vs 0) 5) (w_fi ws (n_v vs 0) 6) (w_fi ws (n_v vs 0) 8) (w_fi w1 (n_v vs 0) 8) k3 k4 d0 d1 fe_0_5_1 fe_0_6_1 fe_0_8_1 fe_0_9_2 kz_0_5 kz_0_6 kz_0_8
  refine ⟨(fun _ h => (by cases h)), [], trivial, ?_, (fun _ h => (by cases h))⟩
  rw [List.append_nil]
  exact List.forall_mem_cons.mpr ⟨⟨show (20 : Nat) < 100 from by decide, nf0⟩, (fun _ h => (by cases h))⟩
def o_Re_advance_5 : or_T := (290, 12, [(0, (2, 0, 0, [8])), (1, (0, -2147483648, 1000000, [])), (2, (2, 0, 0, [8])), (3, (0, 1, 1999, [])), (4, (0, 1, 1999, [])), (5, (2, 0, 0, [109])), (6, (0, 91, 96, [])), (9, (0, 1, 1, [])), (10, (0, 2, 2000, []))], [(20, [2, 1], [30, 0, 1, 1, 9, -1, 0, 0]), (20, [2, 1], [30, 0, -1, 1, 9, 1, 0, 0]), (24, [0, 2], []), (101, [2, 6], [7]), (20, [2, 1], [30, 0, 1, 1, 9, -1, 0, 0]), (20, [2, 1], [30, 0, -1, 1, 9, 1, 0, 0]), (101, [2, 10], [6]), (1, [10, 3, 9], []), (9, [3, 2], [6]), (10, [6, 5, 3], []), (9, [5, 2], [0]), (7, [3, 4], [2]), (9, [4, 2], [5]), (20, [2, 1], [30, 0, 1, 1, 9, -1, 0, 0]), (20, [2, 1], [30, 0, -1, 1, 9, 1, 0, 0]), (101, [2, 3], [8]), (7, [3, 4], [3]), (20, [2, 1], [30, 0, 1, 1, 9, -1, 0, 0]), (20, [2, 1], [30, 0, -1, 1, 9, 1, 0, 0])], [], [], [(20, [0, 0, 1], [31, 1, 3, 1, 1, 7, 0, 1, 1, 9, -1, 0, 0]), (20, [0, 0, 1], [31, 1, 3, 1, 1, 7, 0, -1, 1, 9, 1, 0, 0]), (20, [0, 0, 0, 0], [31, 1, -3, -1, 1, 7, 4008, 1, 1, 6, -1, 1, 8, 2000, 1, 7]), (20, [0, 0], [30, 0, 1, 1, 8, -1, 1, 6])], [], [(10, 3, 1, 1), (10, 4, -4294967296, 0), (10, 4, 1, 4294967296), (3, 4, -4294967296, -1), (3, 4, 0, 4294967296)])
theorem oo_Re_advance_5 {kA : Nat → ClassId} : or_ok PRD kA GG o_Re_advance_5 := by
  refine or_mk fun A ta ws vs hD hth hl => ?_
  intro t0 r0 t1 k1 t2 r2 t3 k3 t4 k4 t5 r5 t6 k6 t9 k9 t10 k10 d0 d1 d2 d3 d4 f0 f1 f2 ta1 w1 le1 s1 f4 f5 ta2 w2 le2 s2 f7 f8 f9 f10 f11 f12 f13 f14 ta3 w3 le3 s3 f16 f17 f18
  replace f0 := shm_199 f0
  replace f1 := shm_200 f1
  replace f2 := shm_5 f2
  have s1 : (∀ b j, w_el ws b j = w_el w1 b j) ∧ ∀ b j, w_fd ws b j = if b = v_ad (n_v vs 2) ∧ j = 7 then n_v vs 6 else w_fd w1 b j := s1.2
  replace f4 := shm_199 f4
  replace f5 := shm_200 f5
  have s2 : (∀ b j, w_el w1 b j = w_el w2 b j) ∧ ∀ b j, w_fd w1 b j = if b = v_ad (n_v vs 2) ∧ j = 6 then n_v vs 10 else w_fd w2 b j := s2.2
  replace f7 := shm_12 f7
  replace f8 := shm_110 f8
  replace f9 := shm_106 f9
  replace f10 := shm_175 f10
  replace f11 := shm_6 f11
  replace f12 := shm_109 f12
  replace f13 := shm_199 f13
  replace f14 := shm_200 f14
  have s3 : (∀ b j, w_el w2 b j = w_el w3 b j) ∧ ∀ b j, w_fd w2 b j = if b = v_ad (n_v vs 2) ∧ j = 8 then n_v vs 3 else w_fd w3 b j := s3.2
  replace f16 := shm_2 f16
  replace f17 := shm_199 f17
  replace f18 := shm_200 f18
  have q2 : n_v vs 2 = n_v vs 0 := f2.symm
  simp only [q2] at f0 f1
  rw [q2] at s1
  simp only [q2] at f4 f5
  rw [q2] at s2
  simp only [q2] at f8 f10 f12 f13 f14
  rw [q2] at s3
  simp only [q2] at f17 f18
  have ar_0_0_1 : w_ar w1 (n_v vs 0) 0 = w_ar ws (n_v vs 0) 0 := by show v_ad (w_fd w1 _ _) = v_ad (w_fd ws _ _); rw [s1.2, if_neg (fun e => absurd e.2 (by decide))]
  have ar_0_0_2 : w_ar w2 (n_v vs 0) 0 = w_ar ws (n_v vs 0) 0 := by rw [← ar_0_0_1]; show v_ad (w_fd w2 _ _) = v_ad (w_fd w1 _ _); rw [s2.2, if_neg (fun e => absurd e.2 (by decide))]
  have ar_0_0_3 : w_ar w3 (n_v vs 0) 0 = w_ar ws (n_v vs 0) 0 := by rw [← ar_0_0_2]; show v_ad (w_fd w3 _ _) = v_ad (w_fd w2 _ _); rw [s3.2, if_neg (fun e => absurd e.2 (by decide))]
  have cr_0_0 := fdq_32 hD hth r0
  have ad_5 : v_ad (n_v vs 5) = w_ar ws (n_v vs 0) 0 := (congrArg v_ad f10).trans ar_0_0_2
  have g8 : v_iv (n_v vs 3) = w_fi w2 (n_v vs 0) 6 := congrArg v_iv f8
  simp only [ad_5] at f9
  have h9 : v_iv (n_v vs 6) = w_ei w2 (w_ar ws (n_v vs 0) 0) (v_iv (n_v vs 3)) := f9
  have g12 : v_iv (n_v vs 4) = w_fi w2 (n_v vs 0) 5 := congrArg v_iv f12
  have fe_0_5_1 : w_fi ws (n_v vs 0) 5 = w_fi w1 (n_v vs 0) 5 := by show v_iv (w_fd _ _ _) = v_iv (w_fd _ _ _); rw [s1.2, if_neg (fun e => absurd e.2 (by decide))]
  have fe_0_6_1 : w_fi ws (n_v vs 0) 6 = w_fi w1 (n_v vs 0) 6 := by show v_iv (w_fd _ _ _) = v_iv (w_fd _ _ _); rw [s1.2, if_neg (fun e => absurd e.2 (by decide))]
  have fe_0_7_1 : w_fi ws (n_v vs 0) 7 = v_iv (n_v vs 6) := by show v_iv (w_fd _ _ _) = _; rw [s1.2, if_pos ⟨rfl, rfl⟩]
  have fe_0_8_1 : w_fi ws (n_v vs 0) 8 = w_fi w1 (n_v vs 0) 8 := by show v_iv (w_fd _ _ _) = v_iv (w_fd _ _ _); rw [s1.2, if_neg (fun e => absurd e.2 (by decide))]
  have fe_0_9_1 : w_fi ws (n_v vs 0) 9 = w_fi w1 (n_v vs 0) 9 := by show v_iv (w_fd _ _ _) = v_iv (w_fd _ _ _); rw [s1.2, if_neg (fun e => absurd e.2 (by decide))]
  have ee_0_0_3_1 : w_el ws (w_ar ws (n_v vs 0) 0) (v_iv (n_v vs 3)).toNat = w_el w1 (w_ar ws (n_v vs 0) 0) (v_iv (n_v vs 3)).toNat := s1.1 _ _
  have fe_0_5_2 : w_fi w1 (n_v vs 0) 5 = w_fi w2 (n_v vs 0) 5 := by show v_iv (w_fd _ _ _) = v_iv (w_fd _ _ _); rw [s2.2, if_neg (fun e => absurd e.2 (by decide))]
  have fe_0_6_2 : w_fi w1 (n_v vs 0) 6 = v_iv (n_v vs 10) := by show v_iv (w_fd _ _ _) = _; rw [s2.2, if_pos ⟨rfl, rfl⟩]
  have fe_0_7_2 : w_fi w1 (n_v vs 0) 7 = w_fi w2 (n_v vs 0) 7 := by show v_iv (w_fd _ _ _) = v_iv (w_fd _ _ _); rw [s2.2, if_neg (fun e => absurd e.2 (by decide))]
  have fe_0_8_2 : w_fi w1 (n_v vs 0) 8 = w_fi w2 (n_v vs 0) 8 := by show v_iv (w_fd _ _ _) = v_iv (w_fd _ _ _); rw [s2.2, if_neg (fun e => absurd e.2 (by decide))]
  have fe_0_9_2 : w_fi w1 (n_v vs 0) 9 = w_fi w2 (n_v vs 0) 9 := by show v_iv (w_fd _ _ _) = v_iv (w_fd _ _ _); rw [s2.2, if_neg (fun e => absurd e.2 (by decide))]
  have ee_0_0_3_2 : w_el w1 (w_ar ws (n_v vs 0) 0) (v_iv (n_v vs 3)).toNat = w_el w2 (w_ar ws (n_v vs 0) 0) (v_iv (n_v vs 3)).toNat := s2.1 _ _
  have fe_0_5_3 : w_fi w2 (n_v vs 0) 5 = w_fi w3 (n_v vs 0) 5 := by show v_iv (w_fd _ _ _) = v_iv (w_fd _ _ _); rw [s3.2, if_neg (fun e => absurd e.2 (by decide))]
  have fe_0_6_3 : w_fi w2 (n_v vs 0) 6 = w_fi w3 (n_v vs 0) 6 := by show v_iv (w_fd _ _ _) = v_iv (w_fd _ _ _); rw [s3.2, if_neg (fun e => absurd e.2 (by decide))]
  have fe_0_7_3 : w_fi w2 (n_v vs 0) 7 = w_fi w3 (n_v vs 0) 7 := by show v_iv (w_fd _ _ _) = v_iv (w_fd _ _ _); rw [s3.2, if_neg (fun e => absurd e.2 (by decide))]
  have fe_0_8_3 : w_fi w2 (n_v vs 0) 8 = v_iv (n_v vs 3) := by show v_iv (w_fd _ _ _) = _; rw [s3.2, if_pos ⟨rfl, rfl⟩]
  have fe_0_9_3 : w_fi w2 (n_v vs 0) 9 = w_fi w3 (n_v vs 0) 9 := by show v_iv (w_fd _ _ _) = v_iv (w_fd _ _ _); rw [s3.2, if_neg (fun e => absurd e.2 (by decide))]
  have ee_0_0_3_3 : w_el w2 (w_ar ws (n_v vs 0) 0) (v_iv (n_v vs 3)).toNat = w_el w3 (w_ar ws (n_v vs 0) 0) (v_iv (n_v vs 3)).toNat := s3.1 _ _
  have kz_0_5 := fdq_28 hD hth r0
  have kz_0_6 := fdq_29 hD hth r0
  have kz_0_7 := fdq_30 hD hth r0
  have kz_0_8 := fdq_31 hD hth r0
  have kz_0_9 := fdq_27 hD hth r0
  have nf0 : fc_1 PRD (20, [0, 0, 1], [31, 1, 3, 1, 1, 7, 0, 1, 1, 9, -1, 0, 0]) ws (vs) := by
    refine ⟨nf_in hl rfl, sgq_201 ?_⟩
    · show (1 * w_fi ws (n_v vs 0) 7 + 0 ≤ 3) ∨ (1 * w_fi ws (n_v vs 0) 9 + ((-1) * v_iv (n_v vs 1) + 0) ≤ 0)
      omega
  have nf1 : fc_1 PRD (20, [0, 0, 1], [31, 1, 3, 1, 1, 7, 0, -1, 1, 9, 1, 0, 0]) ws (vs) := by
    refine ⟨nf_in hl rfl, sgq_202 ?_⟩
    · show (1 * w_fi ws (n_v vs 0) 7 + 0 ≤ 3) ∨ ((-1) * w_fi ws (n_v vs 0) 9 + (1 * v_iv (n_v vs 1) + 0) ≤ 0)
      omega
  have nf2 : fc_1 PRD (20, [0, 0, 0, 0], [31, 1, -3, -1, 1, 7, 4008, 1, 1, 6, -1, 1, 8, 2000, 1, 7]) ws (vs) := by
    refine ⟨nf_in hl rfl, sgq_203 ?_⟩
    · show ((-1) * w_fi ws (n_v vs 0) 7 + 0 ≤ (-3)) ∨ (1 * w_fi ws (n_v vs 0) 6 + ((-1) * w_fi ws (n_v vs 0) 8 + (2000 * w_fi ws (n_v vs 0) 7 + 0)) ≤ 4008)
      omega
  have nf3 : fc_1 PRD (20, [0, 0], [30, 0, 1, 1, 8, -1, 1, 6]) ws (vs) := by
    refine ⟨nf_in hl rfl, sgq_204 ?_⟩
    · show 1 * w_fi ws (n_v vs 0) 8 + ((-1) * w_fi ws (n_v vs 0) 6 + 0) ≤ 0
      omega
  refine ⟨(fun _ h => (by cases h)), [], trivial, ?_, (fun _ h => (by cases h))⟩
  rw [List.append_nil]
  exact List.forall_mem_cons.mpr ⟨⟨show (20 : Nat) < 100 from by decide, nf0⟩, List.forall_mem_cons.mpr ⟨⟨show (20 : Nat) < 100 from by decide, nf1⟩, List.forall_mem_cons.mpr ⟨⟨show (20 : Nat) < 100 from by decide, nf2⟩, List.forall_mem_cons.mpr ⟨⟨show (20 : Nat) < 100 from by decide, nf3⟩, (fun _ h => (by cases h))⟩⟩⟩⟩
set_option maxHeartbeats 4000000 in
theorem vc_Re_advance_6_0 (x3 : Int) (x4 : Int) (next_0 : Int) (number_0 : Int) (number_1 : Int) (begin_0 : Int) (k3 : 1 ≤ x3 ∧ x3 ≤ 1999) (k4 : 1 ≤ x4 ∧ x4 ≤ 1999) (d0 : x4 + (-4294967296) ≤ x3 ∧ x3 ≤ x4 + (-1)) (d1 : x4 + 0 ≤ x3 ∧ x3 ≤ x4 + 4294967296) (fe_0_9_1 : number_0 = number_1) (kz_0_6 : 0 ≤ next_0 ∧ next_0 ≤ 2000) (kz_0_8 : 0 ≤ begin_0 ∧ begin_0 ≤ 2000) (kz_0_9 : (-2147483648) ≤ number_0 ∧ number_0 ≤ 1000000) : 1 * begin_0 + ((-1) * next_0 + 0) ≤ 0 := by
  subst fe_0_9_1
  first | assumption | omega | grind
def o_Re_advance_6 : or_T := (94, 8, [(0, (2, 0, 0, [8])), (3, (0, 1, 1999, [])), (4, (0, 1, 1999, []))], [(24, [0, 2], []), (101, [2, 3], [8])], [], [], [(20, [2, 2], [30, 0, 1, 1, 8, -1, 1, 6])], [], [(3, 4, -4294967296, -1), (3, 4, 0, 4294967296)])
theorem oo_Re_advance_6 {kA : Nat → ClassId} : or_ok PRD kA GG o_Re_advance_6 := by
  refine or_mk fun A ta ws vs hD hth hl => ?_
  intro t0 r0 t3 k3 t4 k4 d0 d1 f5 ta1 w1 le1 s1
  replace f5 := shm_5 f5
  have s1 : (∀ b j, w_el ws b j = w_el w1 b j) ∧ ∀ b j, w_fd ws b j = if b = v_ad (n_v vs 2) ∧ j = 8 then n_v vs 3 else w_fd w1 b j := s1.2
  have q2 : n_v vs 2 = n_v vs 0 := f5.symm
  rw [q2] at s1
  have fe_0_9_1 : w_fi ws (n_v vs 0) 9 = w_fi w1 (n_v vs 0) 9 := by show v_iv (w_fd _ _ _) = v_iv (w_fd _ _ _); rw [s1.2, if_neg (fun e => absurd e.2 (by decide))]
  have kz_0_6 := fdq_29 hD hth r0
  have kz_0_8 := fdq_31 hD hth r0
  have kz_0_9 := fdq_27 hD hth r0
  have nf0 : fc_1 PRD (20, [2, 2], [30, 0, 1, 1, 8, -1, 1, 6]) ws (vs) := by
    refine ⟨nf_in hl rfl, sgq_204 ?_⟩
    · show 1 * w_fi ws (n_v vs 2) 8 + ((-1) * w_fi ws (n_v vs 2) 6 + 0) ≤ 0
      rw [q2]
      exact vc_Re_advance_6_0 (v_iv (n_v vs 3)) (v_iv (n_v vs 4)) (w_fi ws (n_v vs 0) 6) (w_fi ws (n_v vs 0) 9) (w_fi w1 (n_v vs 0) 9) (w_fi ws (n_v vs 0) 8) k3 k4 d0 d1 fe_0_9_1 kz_0_6 kz_0_8 kz_0_9
  refine ⟨(fun _ h => (by cases h)), [], trivial, ?_, (fun _ h => (by cases h))⟩
  rw [List.append_nil]
  exact List.forall_mem_cons.mpr ⟨⟨show (20 : Nat) < 100 from by decide, nf0⟩, (fun _ h => (by cases h))⟩
def o_Re_advance_7 : or_T := (290, 12, [(0, (2, 0, 0, [8])), (1, (0, -2147483648, 1000000, [])), (2, (2, 0, 0, [8])), (3, (0, 1, 1999, [])), (4, (0, 1, 1999, [])), (5, (2, 0, 0, [109])), (6, (0, 123, 127, [])), (9, (0, 1, 1, [])), (10, (0, 2, 2000, []))], [(20, [2, 1], [30, 0, 1, 1, 9, -1, 0, 0]), (20, [2, 1], [30, 0, -1, 1, 9, 1, 0, 0]), (24, [0, 2], []), (101, [2, 6], [7]), (20, [2, 1], [30, 0, 1, 1, 9, -1, 0, 0]), (20, [2, 1], [30, 0, -1, 1, 9, 1, 0, 0]), (101, [2, 10], [6]), (1, [10, 3, 9], []), (9, [3, 2], [6]), (10, [6, 5, 3], []), (9, [5, 2], [0]), (7, [3, 4], [2]), (9, [4, 2], [5]), (20, [2, 1], [30, 0, 1, 1, 9, -1, 0, 0]), (20, [2, 1], [30, 0, -1, 1, 9, 1, 0, 0]), (101, [2, 3], [8]), (7, [3, 4], [3]), (20, [2, 1], [30, 0, 1, 1, 9, -1, 0, 0]), (20, [2, 1], [30, 0, -1, 1, 9, 1, 0, 0])], [], [], [(20, [0, 0, 1], [31, 1, 3, 1, 1, 7, 0, 1, 1, 9, -1, 0, 0]), (20, [0, 0, 1], [31, 1, 3, 1, 1, 7, 0, -1, 1, 9, 1, 0, 0]), (20, [0, 0, 0, 0], [31, 1, -3, -1, 1, 7, 4008, 1, 1, 6, -1, 1, 8, 2000, 1, 7]), (20, [0, 0], [30, 0, 1, 1, 8, -1, 1, 6])], [], [(10, 3, 1, 1), (10, 4, -4294967296, 0), (10, 4, 1, 4294967296), (3, 4, -4294967296, -1), (3, 4, 0, 4294967296)])
theorem oo_Re_advance_7 {kA : Nat → ClassId} : or_ok PRD kA GG o_Re_advance_7 := by
  refine or_mk fun A ta ws vs hD hth hl => ?_
  intro t0 r0 t1 k1 t2 r2 t3 k3 t4 k4 t5 r5 t6 k6 t9 k9 t10 k10 d0 d1 d2 d3 d4 f0 f1 f2 ta1 w1 le1 s1 f4 f5 ta2 w2 le2 s2 f7 f8 f9 f10 f11 f12 f13 f14 ta3 w3 le3 s3 f16 f17 f18
  replace f0 := shm_199 f0
  replace f1 := shm_200 f1
  replace f2 := shm_5 f2
  have s1 : (∀ b j, w_el ws b j = w_el w1 b j) ∧ ∀ b j, w_fd ws b j = if b = v_ad (n_v vs 2) ∧ j = 7 then n_v vs 6 else w_fd w1 b j := s1.2
  replace f4 := shm_199 f4
  replace f5 := shm_200 f5
  have s2 : (∀ b j, w_el w1 b j = w_el w2 b j) ∧ ∀ b j, w_fd w1 b j = if b = v_ad (n_v vs 2) ∧ j = 6 then n_v vs 10 else w_fd w2 b j := s2.2
  replace f7 := shm_12 f7
  replace f8 := shm_110 f8
  replace f9 := shm_106 f9
  replace f10 := shm_175 f10
  replace f11 := shm_6 f11
  replace f12 := shm_109 f12
  replace f13 := shm_199 f13
  replace f14 := shm_200 f14
  have s3 : (∀ b j, w_el w2 b j = w_el w3 b j) ∧ ∀ b j, w_fd w2 b j = if b = v_ad (n_v vs 2) ∧ j = 8 then n_v vs 3 else w_fd w3 b j := s3.2
  replace f16 := shm_2 f16
  replace f17 := shm_199 f17
  replace f18 := shm_200 f18
  have q2 : n_v vs 2 = n_v vs 0 := f2.symm
  simp only [q2] at f0 f1
  rw [q2] at s1
  simp only [q2] at f4 f5
  rw [q2] at s2
  simp only [q2] at f8 f10 f12 f13 f14
  rw [q2] at s3
  simp only [q2] at f17 f18
  have ar_0_0_1 : w_ar w1 (n_v vs 0) 0 = w_ar ws (n_v vs 0) 0 := by show v_ad (w_fd w1 _ _) = v_ad (w_fd ws _ _); rw [s1.2, if_neg (fun e => absurd e.2 (by decide))]
  have ar_0_0_2 : w_ar w2 (n_v vs 0) 0 = w_ar ws (n_v vs 0) 0 := by rw [← ar_0_0_1]; show v_ad (w_fd w2 _ _) = v_ad (w_fd w1 _ _); rw [s2.2, if_neg (fun e => absurd e.2 (by decide))]
  have ar_0_0_3 : w_ar w3 (n_v vs 0) 0 = w_ar ws (n_v vs 0) 0 := by rw [← ar_0_0_2]; show v_ad (w_fd w3 _ _) = v_ad (w_fd w2 _ _); rw [s3.2, if_neg (fun e => absurd e.2 (by decide))]
  have cr_0_0 := fdq_32 hD hth r0
  have ad_5 : v_ad (n_v vs 5) = w_ar ws (n_v vs 0) 0 := (congrArg v_ad f10).trans ar_0_0_2
  have g8 : v_iv (n_v vs 3) = w_fi w2 (n_v vs 0) 6 := congrArg v_iv f8
  simp only [ad_5] at f9
  have h9 : v_iv (n_v vs 6) = w_ei w2 (w_ar ws (n_v vs 0) 0) (v_iv (n_v vs 3)) := f9
  have g12 : v_iv (n_v vs 4) = w_fi w2 (n_v vs 0) 5 := congrArg v_iv f12
  have fe_0_5_1 : w_fi ws (n_v vs 0) 5 = w_fi w1 (n_v vs 0) 5 := by show v_iv (w_fd _ _ _) = v_iv (w_fd _ _ _); rw [s1.2, if_neg (fun e => absurd e.2 (by decide))]
  have fe_0_6_1 : w_fi ws (n_v vs 0) 6 = w_fi w1 (n_v vs 0) 6 := by show v_iv (w_fd _ _ _) = v_iv (w_fd _ _ _); rw [s1.2, if_neg (fun e => absurd e.2 (by decide))]
  have fe_0_7_1 : w_fi ws (n_v vs 0) 7 = v_iv (n_v vs 6) := by show v_iv (w_fd _ _ _) = _; rw [s1.2, if_pos ⟨rfl, rfl⟩]
  have fe_0_8_1 : w_fi ws (n_v vs 0) 8 = w_fi w1 (n_v vs 0) 8 := by show v_iv (w_fd _ _ _) = v_iv (w_fd _ _ _); rw [s1.2, if_neg (fun e => absurd e.2 (by decide))]
  have fe_0_9_1 : w_fi ws (n_v vs 0) 9 = w_fi w1 (n_v vs 0) 9 := by show v_iv (w_fd _ _ _) = v_iv (w_fd _ _ _); rw [s1.2, if_neg (fun e => absurd e.2 (by decide))]
  have ee_0_0_3_1 : w_el ws (w_ar ws (n_v vs 0) 0) (v_iv (n_v vs 3)).toNat = w_el w1 (w_ar ws (n_v vs 0) 0) (v_iv (n_v vs 3)).toNat := s1.1 _ _
  have fe_0_5_2 : w_fi w1 (n_v vs 0) 5 = w_fi w2 (n_v vs 0) 5 := by show v_iv (w_fd _ _ _) = v_iv (w_fd _ _ _); rw [s2.2, if_neg (fun e => absurd e.2 (by decide))]
  have fe_0_6_2 : w_fi w1 (n_v vs 0) 6 = v_iv (n_v vs 10) := by show v_iv (w_fd _ _ _) = _; rw [s2.2, if_pos ⟨rfl, rfl⟩]
  have fe_0_7_2 : w_fi w1 (n_v vs 0) 7 = w_fi w2 (n_v vs 0) 7 := by show v_iv (w_fd _ _ _) = v_iv (w_fd _ _ _); rw [s2.2, if_neg (fun e => absurd e.2 (by decide))]
  have fe_0_8_2 : w_fi w1 (n_v vs 0) 8 = w_fi w2 (n_v vs 0) 8 := by show v_iv (w_fd _ _ _) = v_iv (w_fd _ _ _); rw [s2.2, if_neg (fun e => absurd e.2 (by decide))]
  have fe_0_9_2 : w_fi w1 (n_v vs 0) 9 = w_fi w2 (n_v vs 0) 9 := by show v_iv (w_fd _ _ _) = v_iv (w_fd _ _ _); rw [s2.2, if_neg (fun e => absurd e.2 (by decide))]
  have ee_0_0_3_2 : w_el w1 (w_ar ws (n_v vs 0) 0) (v_iv (n_v vs 3)).toNat = w_el w2 (w_ar ws (n_v vs 0) 0) (v_iv (n_v vs 3)).toNat := s2.1 _ _
  have fe_0_5_3 : w_fi w2 (n_v vs 0) 5 = w_fi w3 (n_v vs 0) 5 := by show v_iv (w_fd _ _ _) = v_iv (w_fd _ _ _); rw [s3.2, if_neg (fun e => absurd e.2 (by decide))]
  have fe_0_6_3 : w_fi w2 (n_v vs 0) 6 = w_fi w3 (n_v vs 0) 6 := by show v_iv (w_fd _ _ _) = v_iv (w_fd _ _ _); rw [s3.2, if_neg (fun e => absurd e.2 (by decide))]
  have fe_0_7_3 : w_fi w2 (n_v vs 0) 7 = w_fi w3 (n_v vs 0) 7 := by show v_iv (w_fd _ _ _) = v_iv (w_fd _ _ _); rw [s3.2, if_neg (fun e => absurd e.2 (by decide))]
  have fe_0_8_3 : w_fi w2 (n_v vs 0) 8 = v_iv (n_v vs 3) := by show v_iv (w_fd _ _ _) = _; rw [s3.2, if_pos ⟨rfl, rfl⟩]
  have fe_0_9_3 : w_fi w2 (n_v vs 0) 9 = w_fi w3 (n_v vs 0) 9 := by show v_iv (w_fd _ _ _) = v_iv (w_fd _ _ _); rw [s3.2, if_neg (fun e => absurd e.2 (by decide))]
  have ee_0_0_3_3 : w_el w2 (w_ar ws (n_v vs 0) 0) (v_iv (n_v vs 3)).toNat = w_el w3 (w_ar ws (n_v vs 0) 0) (v_iv (n_v vs 3)).toNat := s3.1 _ _
  have kz_0_5 := fdq_28 hD hth r0
  have kz_0_6 := fdq_29 hD hth r0
  have kz_0_7 := fdq_30 hD hth r0
  have kz_0_8 := fdq_31 hD hth r0
  have kz_0_9 := fdq_27 hD hth r0
  have nf0 : fc_1 PRD (20, [0, 0, 1], [31, 1, 3, 1, 1, 7, 0, 1, 1, 9, -1, 0, 0]) ws (vs) := by
    refine ⟨nf_in hl rfl, sgq_201 ?_⟩
    · show (1 * w_fi ws (n_v vs 0) 7 + 0 ≤ 3) ∨ (1 * w_fi ws (n_v vs 0) 9 + ((-1) * v_iv (n_v vs 1) + 0) ≤ 0)
      omega
  have nf1 : fc_1 PRD (20, [0, 0, 1], [31, 1, 3, 1, 1, 7, 0, -1, 1, 9, 1, 0, 0]) ws (vs) := by
    refine ⟨nf_in hl rfl, sgq_202 ?_⟩
    · show (1 * w_fi ws (n_v vs 0) 7 + 0 ≤ 3) ∨ ((-1) * w_fi ws (n_v vs 0) 9 + (1 * v_iv (n_v vs 1) + 0) ≤ 0)
      omega
  have nf2 : fc_1 PRD (20, [0, 0, 0, 0], [31, 1, -3, -1, 1, 7, 4008, 1, 1, 6, -1, 1, 8, 2000, 1, 7]) ws (vs) := by
    refine ⟨nf_in hl rfl, sgq_203 ?_⟩
    · show ((-1) * w_fi ws (n_v vs 0) 7 + 0 ≤ (-3)) ∨ (1 * w_fi ws (n_v vs 0) 6 + ((-1) * w_fi ws (n_v vs 0) 8 + (2000 * w_fi ws (n_v vs 0) 7 + 0)) ≤ 4008)
      omega
  have nf3 : fc_1 PRD (20, [0, 0], [30, 0, 1, 1, 8, -1, 1, 6]) ws (vs) := by
    refine ⟨nf_in hl rfl, sgq_204 ?_⟩
    · show 1 * w_fi ws (n_v vs 0) 8 + ((-1) * w_fi ws (n_v vs 0) 6 + 0) ≤ 0
      omega
  refine ⟨(fun _ h => (by cases h)), [], trivial, ?_, (fun _ h => (by cases h))⟩
  rw [List.append_nil]
  exact List.forall_mem_cons.mpr ⟨⟨show (20 : Nat) < 100 from by decide, nf0⟩, List.forall_mem_cons.mpr ⟨⟨show (20 : Nat) < 100 from by decide, nf1⟩, List.forall_mem_cons.mpr ⟨⟨show (20 : Nat) < 100 from by decide, nf2⟩, List.forall_mem_cons.mpr ⟨⟨show (20 : Nat) < 100 from by decide, nf3⟩, (fun _ h => (by cases h))⟩⟩⟩⟩
set_option maxHeartbeats 4000000 in
theorem vc_Re_advance_8_0 (x1 : Int) (x5 : Int) (number_0 : Int) (end_1 : Int) (next_1 : Int) (number_1 : Int) (number_2 : Int) (end_0 : Int) (next_0 : Int) (kind_0 : Int) (begin_0 : Int) (begin_1 : Int) (k1 : (-2147483648) ≤ x1 ∧ x1 ≤ 1000000) (k5 : 0 ≤ x5 ∧ x5 ≤ 0) (fe_0_5_1 : end_0 = end_1) (fe_0_6_1 : next_0 = next_1) (fe_0_7_1 : kind_0 = x5) (fe_0_8_1 : begin_0 = begin_1) (fe_0_9_1 : number_0 = number_1) (fe_0_9_2 : number_1 = number_2) (kz_0_5 : 0 ≤ end_0 ∧ end_0 ≤ 2000) (kz_0_6 : 0 ≤ next_0 ∧ next_0 ≤ 2000) (kz_0_7 : (-128) ≤ kind_0 ∧ kind_0 ≤ 127) (kz_0_8 : 0 ≤ begin_0 ∧ begin_0 ≤ 2000) (kz_0_9 : (-2147483648) ≤ number_0 ∧ number_0 ≤ 1000000) : (1 * kind_0 + 0 ≤ 3) ∨ (1 * number_0 + ((-1) * x1 + 0) ≤ 0) := by
  subst fe_0_5_1
  subst fe_0_6_1
  subst fe_0_8_1
  subst fe_0_9_1
  subst fe_0_9_2
  first | assumption | omega | grind
set_option maxHeartbeats 4000000 in
theorem vc_Re_advance_8_1 (x1 : Int) (x5 : Int) (number_0 : Int) (end_1 : Int) (next_1 : Int) (number_1 : Int) (number_2 : Int) (end_0 : Int) (next_0 : Int) (kind_0 : Int) (begin_0 : Int) (begin_1 : Int) (k1 : (-2147483648) ≤ x1 ∧ x1 ≤ 1000000) (k5 : 0 ≤ x5 ∧ x5 ≤ 0) (fe_0_5_1 : end_0 = end_1) (fe_0_6_1 : next_0 = next_1) (fe_0_7_1 : kind_0 = x5) (fe_0_8_1 : begin_0 = begin_1) (fe_0_9_1 : number_0 = number_1) (fe_0_9_2 : number_1 = number_2) (kz_0_5 : 0 ≤ end_0 ∧ end_0 ≤ 2000) (kz_0_6 : 0 ≤ next_0 ∧ next_0 ≤ 2000) (kz_0_7 : (-128) ≤ kind_0 ∧ kind_0 ≤ 127) (kz_0_8 : 0 ≤ begin_0 ∧ begin_0 ≤ 2000) (kz_0_9 : (-2147483648) ≤ number_0 ∧ number_0 ≤ 1000000) : (1 * kind_0 + 0 ≤ 3) ∨ ((-1) * number_0 + (1 * x1 + 0) ≤ 0) := by
  subst fe_0_5_1
  subst fe_0_6_1
  subst fe_0_8_1
  subst fe_0_9_1
  subst fe_0_9_2
  first | assumption | omega | grind
set_option maxHeartbeats 4000000 in
theorem vc_Re_advance_8_2 (x3 : Int) (x5 : Int) (number_0 : Int) (end_1 : Int) (next_1 : Int) (number_1 : Int) (number_2 : Int) (end_0 : Int) (next_0 : Int) (kind_0 : Int) (begin_0 : Int) (begin_1 : Int) (k3 : 0 ≤ x3 ∧ x3 ≤ 2000) (k5 : 0 ≤ x5 ∧ x5 ≤ 0) (g6 : x3 = next_1) (fe_0_5_1 : end_0 = end_1) (fe_0_6_1 : next_0 = next_1) (fe_0_7_1 : kind_0 = x5) (fe_0_8_1 : begin_0 = begin_1) (fe_0_9_1 : number_0 = number_1) (fe_0_8_2 : begin_1 = x3) (fe_0_9_2 : number_1 = number_2) (kz_0_5 : 0 ≤ end_0 ∧ end_0 ≤ 2000) (kz_0_6 : 0 ≤ next_0 ∧ next_0 ≤ 2000) (kz_0_7 : (-128) ≤ kind_0 ∧ kind_0 ≤ 127) (kz_0_8 : 0 ≤ begin_0 ∧ begin_0 ≤ 2000) (kz_0_9 : (-2147483648) ≤ number_0 ∧ number_0 ≤ 1000000) : ((-1) * kind_0 + 0 ≤ (-3)) ∨ (1 * next_0 + ((-1) * begin_0 + (2000 * kind_0 + 0)) ≤ 4008) := by
  subst fe_0_5_1
  subst fe_0_6_1
  subst fe_0_8_1
  subst fe_0_9_1
  subst fe_0_9_2
  first | assumption | omega | grind
set_option maxHeartbeats 4000000 in
theorem vc_Re_advance_8_3 (x3 : Int) (number_0 : Int) (end_1 : Int) (next_1 : Int) (number_1 : Int) (number_2 : Int) (end_0 : Int) (next_0 : Int) (begin_0 : Int) (begin_1 : Int) (k3 : 0 ≤ x3 ∧ x3 ≤ 2000) (g6 : x3 = next_1) (fe_0_5_1 : end_0 = end_1) (fe_0_6_1 : next_0 = next_1) (fe_0_8_1 : begin_0 = begin_1) (fe_0_9_1 : number_0 = number_1) (fe_0_8_2 : begin_1 = x3) (fe_0_9_2 : number_1 = number_2) (kz_0_5 : 0 ≤ end_0 ∧ end_0 ≤ 2000) (kz_0_6 : 0 ≤ next_0 ∧ next_0 ≤ 2000) (kz_0_8 : 0 ≤ begin_0 ∧ begin_0 ≤ 2000) (kz_0_9 : (-2147483648) ≤ number_0 ∧ number_0 ≤ 1000000) : 1 * begin_0 + ((-1) * next_0 + 0) ≤ 0 := by
  subst fe_0_5_1
  subst fe_0_6_1
  subst fe_0_8_1
  subst fe_0_9_1
  subst fe_0_9_2
  first | assumption | omega | grind
def o_Re_advance_8 : or_T := (76, 6, [(0, (2, 0, 0, [8])), (1, (0, -2147483648, 1000000, [])), (3, (0, 0, 2000, [])), (5, (0, 0, 0, []))], [(24, [0, 2], []), (101, [2, 5], [7]), (9, [3, 2], [6]), (101, [2, 3], [8])], [], [], [(20, [0, 0, 1], [31, 1, 3, 1, 1, 7, 0, 1, 1, 9, -1, 0, 0]), (20, [0, 0, 1], [31, 1, 3, 1, 1, 7, 0, -1, 1, 9, 1, 0, 0]), (20, [0, 0, 0, 0], [31, 1, -3, -1, 1, 7, 4008, 1, 1, 6, -1, 1, 8, 2000, 1, 7]), (20, [0, 0], [30, 0, 1, 1, 8, -1, 1, 6])], [], [])
theorem oo_Re_advance_8 {kA : Nat → ClassId} : or_ok PRD kA GG o_Re_advance_8 := by
  refine or_mk fun A ta ws vs hD hth hl => ?_
  intro t0 r0 t1 k1 t3 k3 t5 k5 f2 ta1 w1 le1 s1 f6 ta2 w2 le2 s2
  replace f2 := shm_5 f2
  have s1 : (∀ b j, w_el ws b j = w_el w1 b j) ∧ ∀ b j, w_fd ws b j = if b = v_ad (n_v vs 2) ∧ j = 7 then n_v vs 5 else w_fd w1 b j := s1.2
  replace f6 := shm_110 f6
  have s2 : (∀ b j, w_el w1 b j = w_el w2 b j) ∧ ∀ b j, w_fd w1 b j = if b = v_ad (n_v vs 2) ∧ j = 8 then n_v vs 3 else w_fd w2 b j := s2.2
  have q2 : n_v vs 2 = n_v vs 0 := f2.symm
  rw [q2] at s1
  simp only [q2] at f6
  rw [q2] at s2
  have g6 : v_iv (n_v vs 3) = w_fi w1 (n_v vs 0) 6 := congrArg v_iv f6
  have fe_0_5_1 : w_fi ws (n_v vs 0) 5 = w_fi w1 (n_v vs 0) 5 := by show v_iv (w_fd _ _ _) = v_iv (w_fd _ _ _); rw [s1.2, if_neg (fun e => absurd e.2 (by decide))]
  have fe_0_6_1 : w_fi ws (n_v vs 0) 6 = w_fi w1 (n_v vs 0) 6 := by show v_iv (w_fd _ _ _) = v_iv (w_fd _ _ _); rw [s1.2, if_neg (fun e => absurd e.2 (by decide))]
  have fe_0_7_1 : w_fi ws (n_v vs 0) 7 = v_iv (n_v vs 5) := by show v_iv (w_fd _ _ _) = _; rw [s1.2, if_pos ⟨rfl, rfl⟩]
  have fe_0_8_1 : w_fi ws (n_v vs 0) 8 = w_fi w1 (n_v vs 0) 8 := by show v_iv (w_fd _ _ _) = v_iv (w_fd _ _ _); rw [s1.2, if_neg (fun e => absurd e.2 (by decide))]
  have fe_0_9_1 : w_fi ws (n_v vs 0) 9 = w_fi w1 (n_v vs 0) 9 := by show v_iv (w_fd _ _ _) = v_iv (w_fd _ _ _); rw [s1.2, if_neg (fun e => absurd e.2 (by decide))]
  have fe_0_8_2 : w_fi w1 (n_v vs 0) 8 = v_iv (n_v vs 3) := by show v_iv (w_fd _ _ _) = _; rw [s2.2, if_pos ⟨rfl, rfl⟩]
  have fe_0_9_2 : w_fi w1 (n_v vs 0) 9 = w_fi w2 (n_v vs 0) 9 := by show v_iv (w_fd _ _ _) = v_iv (w_fd _ _ _); rw [s2.2, if_neg (fun e => absurd e.2 (by decide))]
  have kz_0_5 := fdq_28 hD hth r0
  have kz_0_6 := fdq_29 hD hth r0
  have kz_0_7 := fdq_30 hD hth r0
  have kz_0_8 := fdq_31 hD hth r0
  have kz_0_9 := fdq_27 hD hth r0
  have nf0 : fc_1 PRD (20, [0, 0, 1], [31, 1, 3, 1, 1, 7, 0, 1, 1, 9, -1, 0, 0]) ws (vs) := ⟨nf_in hl rfl, sgq_201 (vc_Re_advance_8_0 (v_iv (n_v vs 1)) (v_iv (n_v vs 5)) (w_fi ws (n_v vs 0) 9) (w_fi w1 (n_v vs 0) 5) (w_fi w1 (n_v vs 0) 6) (w_fi w1 (n_v vs 0) 9) (w_fi w2 (n_v vs 0) 9) (w_fi ws (n_v vs 0) 5) (w_fi ws (n_v vs 0) 6) (w_fi ws (n_v vs 0) 7) (w_fi ws (n_v vs 0) 8) (w_fi w1 (n_v vs 0) 8) k1 k5 fe_0_5_1 fe_0_6_1 fe_0_7_1 fe_0_8_1 fe_0_9_1 fe_0_9_2 kz_0_5 kz_0_6 kz_0_7 kz_0_8 kz_0_9)⟩
  have nf1 : fc_1 PRD (20, [0, 0, 1], [31, 1, 3, 1, 1, 7, 0, -1, 1, 9, 1, 0, 0]) ws (vs) := ⟨nf_in hl rfl, sgq_202 (vc_Re_advance_8_1 (v_iv (n_v vs 1)) (v_iv (n_v vs 5)) (w_fi ws (n_v vs 0) 9) (w_fi w1 (n_v vs 0) 5) (w_fi w1 (n_v vs 0) 6) (w_fi w1 (n_v vs 0) 9) (w_fi w2 (n_v vs 0) 9) (w_fi ws (n_v vs 0) 5) (w_fi ws (n_v vs 0) 6) (w_fi ws (n_v vs 0) 7) (w_fi ws (n_v vs 0) 8) (w_fi w1 (n_v vs 0) 8) k1 k5 fe_0_5_1 fe_0_6_1 fe_0_7_1 fe_0_8_1 fe_0_9_1 fe_0_9_2 kz_0_5 kz_0_6 kz_0_7 kz_0_8 kz_0_9)⟩
  have nf2 : fc_1 PRD (20, [0, 0, 0, 0], [31, 1, -3, -1, 1, 7, 4008, 1, 1, 6, -1, 1, 8, 2000, 1, 7]) ws (vs) := ⟨nf_in hl rfl, sgq_203 (vc_Re_advance_8_2 (v_iv (n_v vs 3)) (v_iv (n_v vs 5)) (w_fi ws (n_v vs 0) 9) (w_fi w1 (n_v vs 0) 5) (w_fi w1 (n_v vs 0) 6) (w_fi w1 (n_v vs 0) 9) (w_fi w2 (n_v vs 0) 9) (w_fi ws (n_v vs 0) 5) (w_fi ws (n_v vs 0) 6) (w_fi ws (n_v vs 0) 7) (w_fi ws (n_v vs 0) 8) (w_fi w1 (n_v vs 0) 8) k3 k5 g6 fe_0_5_1 fe_0_6_1 fe_0_7_1 fe_0_8_1 fe_0_9_1 fe_0_8_2 fe_0_9_2 kz_0_5 kz_0_6 kz_0_7 kz_0_8 kz_0_9)⟩
  have nf3 : fc_1 PRD (20, [0, 0], [30, 0, 1, 1, 8, -1, 1, 6]) ws (vs) := ⟨nf_in hl rfl, sgq_204 (vc_Re_advance_8_3 (v_iv (n_v vs 3)) (w_fi ws (n_v vs 0) 9) (w_fi w1 (n_v vs 0) 5) (w_fi w1 (n_v vs 0) 6) (w_fi w1 (n_v vs 0) 9) (w_fi w2 (n_v vs 0) 9) (w_fi ws (n_v vs 0) 5) (w_fi ws (n_v vs 0) 6) (w_fi ws (n_v vs 0) 8) (w_fi w1 (n_v vs 0) 8) k3 g6 fe_0_5_1 fe_0_6_1 fe_0_8_1 fe_0_9_1 fe_0_8_2 fe_0_9_2 kz_0_5 kz_0_6 kz_0_8 kz_0_9)⟩
  refine ⟨(fun _ h => (by cases h)), [], trivial, ?_, (fun _ h => (by cases h))⟩
  rw [List.append_nil]
  exact List.forall_mem_cons.mpr ⟨⟨show (20 : Nat) < 100 from by decide, nf0⟩, List.forall_mem_cons.mpr ⟨⟨show (20 : Nat) < 100 from by decide, nf1⟩, List.forall_mem_cons.mpr ⟨⟨show (20 : Nat) < 100 from by decide, nf2⟩, List.forall_mem_cons.mpr ⟨⟨show (20 : Nat) < 100 from by decide, nf3⟩, (fun _ h => (by cases h))⟩⟩⟩⟩
set_option maxHeartbeats 4000000 in
theorem vc_Re_advance_9_0 (x1 : Int) (x16 : Int) (number_0 : Int) (number_1 : Int) (end_2 : Int) (number_2 : Int) (number_3 : Int) (end_0 : Int) (end_1 : Int) (next_0 : Int) (next_1 : Int) (kind_0 : Int) (begin_0 : Int) (begin_1 : Int) (kind_1 : Int) (kind_2 : Int) (begin_2 : Int) (k1 : (-2147483648) ≤ x1 ∧ x1 ≤ 1000000) (k16 : 1 ≤ x16 ∧ x16 ≤ 1) (fe_0_5_1 : end_0 = end_1) (fe_0_6_1 : next_0 = next_1) (fe_0_7_1 : kind_0 = x16) (fe_0_8_1 : begin_0 = begin_1) (fe_0_9_1 : number_0 = number_1) (fe_0_5_2 : end_1 = end_2) (fe_0_7_2 : kind_1 = kind_2) (fe_0_8_2 : begin_1 = begin_2) (fe_0_9_2 : number_1 = number_2) (fe_0_9_3 : number_2 = number_3) (kz_0_5 : 0 ≤ end_0 ∧ end_0 ≤ 2000) (kz_0_6 : 0 ≤ next_0 ∧ next_0 ≤ 2000) (kz_0_7 : (-128) ≤ kind_0 ∧ kind_0 ≤ 127) (kz_0_8 : 0 ≤ begin_0 ∧ begin_0 ≤ 2000) (kz_0_9 : (-2147483648) ≤ number_0 ∧ number_0 ≤ 1000000) : (1 * kind_0 + 0 ≤ 3) ∨ (1 * number_0 + ((-1) * x1 + 0) ≤ 0) := by
  subst fe_0_5_1
  subst fe_0_6_1
  subst fe_0_8_1
  subst fe_0_9_1
  subst fe_0_5_2
  subst fe_0_7_2
  subst fe_0_8_2
  subst fe_0_9_2
  subst fe_0_9_3
  first | assumption | omega | grind
set_option maxHeartbeats 4000000 in
theorem vc_Re_advance_9_1 (x1 : Int) (x16 : Int) (number_0 : Int) (number_1 : Int) (end_2 : Int) (number_2 : Int) (number_3 : Int) (end_0 : Int) (end_1 : Int) (next_0 : Int) (next_1 : Int) (kind_0 : Int) (begin_0 : Int) (begin_1 : Int) (kind_1 : Int) (kind_2 : Int) (begin_2 : Int) (k1 : (-2147483648) ≤ x1 ∧ x1 ≤ 1000000) (k16 : 1 ≤ x16 ∧ x16 ≤ 1) (fe_0_5_1 : end_0 = end_1) (fe_0_6_1 : next_0 = next_1) (fe_0_7_1 : kind_0 = x16) (fe_0_8_1 : begin_0 = begin_1) (fe_0_9_1 : number_0 = number_1) (fe_0_5_2 : end_1 = end_2) (fe_0_7_2 : kind_1 = kind_2) (fe_0_8_2 : begin_1 = begin_2) (fe_0_9_2 : number_1 = number_2) (fe_0_9_3 : number_2 = number_3) (kz_0_5 : 0 ≤ end_0 ∧ end_0 ≤ 2000) (kz_0_6 : 0 ≤ next_0 ∧ next_0 ≤ 2000) (kz_0_7 : (-128) ≤ kind_0 ∧ kind_0 ≤ 127) (kz_0_8 : 0 ≤ begin_0 ∧ begin_0 ≤ 2000) (kz_0_9 : (-2147483648) ≤ number_0 ∧ number_0 ≤ 1000000) : (1 * kind_0 + 0 ≤ 3) ∨ ((-1) * number_0 + (1 * x1 + 0) ≤ 0) := by
  subst fe_0_5_1
  subst fe_0_6_1
  subst fe_0_8_1
  subst fe_0_9_1
  subst fe_0_5_2
  subst fe_0_7_2
  subst fe_0_8_2
  subst fe_0_9_2
  subst fe_0_9_3
  first | assumption | omega | grind
set_option maxHeartbeats 4000000 in
theorem vc_Re_advance_9_2 (x3 : Int) (x14 : Int) (x16 : Int) (number_0 : Int) (number_1 : Int) (next_2 : Int) (end_2 : Int) (number_2 : Int) (number_3 : Int) (end_0 : Int) (end_1 : Int) (next_0 : Int) (next_1 : Int) (kind_0 : Int) (begin_0 : Int) (begin_1 : Int) (kind_1 : Int) (kind_2 : Int) (begin_2 : Int) (k3 : 0 ≤ x3 ∧ x3 ≤ 1999) (k14 : 1 ≤ x14 ∧ x14 ≤ 2000) (k16 : 1 ≤ x16 ∧ x16 ≤ 1) (d0 : x3 + 1 ≤ x14 ∧ x14 ≤ x3 + 1) (g8 : x3 = next_2) (fe_0_5_1 : end_0 = end_1) (fe_0_6_1 : next_0 = next_1) (fe_0_7_1 : kind_0 = x16) (fe_0_8_1 : begin_0 = begin_1) (fe_0_9_1 : number_0 = number_1) (fe_0_5_2 : end_1 = end_2) (fe_0_6_2 : next_1 = x14) (fe_0_7_2 : kind_1 = kind_2) (fe_0_8_2 : begin_1 = begin_2) (fe_0_9_2 : number_1 = number_2) (fe_0_8_3 : begin_2 = x3) (fe_0_9_3 : number_2 = number_3) (kz_0_5 : 0 ≤ end_0 ∧ end_0 ≤ 2000) (kz_0_6 : 0 ≤ next_0 ∧ next_0 ≤ 2000) (kz_0_7 : (-128) ≤ kind_0 ∧ kind_0 ≤ 127) (kz_0_8 : 0 ≤ begin_0 ∧ begin_0 ≤ 2000) (kz_0_9 : (-2147483648) ≤ number_0 ∧ number_0 ≤ 1000000) : ((-1) * kind_0 + 0 ≤ (-3)) ∨ (1 * next_0 + ((-1) * begin_0 + (2000 * kind_0 + 0)) ≤ 4008) := by
  subst fe_0_5_1
  subst fe_0_6_1
  subst fe_0_8_1
  subst fe_0_9_1
  subst fe_0_5_2
  subst fe_0_7_2
  subst fe_0_8_2
  subst fe_0_9_2
  subst fe_0_9_3
  first | assumption | omega | grind
set_option maxHeartbeats 4000000 in
theorem vc_Re_advance_9_3 (x3 : Int) (x14 : Int) (number_0 : Int) (number_1 : Int) (next_2 : Int) (end_2 : Int) (number_2 : Int) (number_3 : Int) (end_0 : Int) (end_1 : Int) (next_0 : Int) (next_1 : Int) (begin_0 : Int) (begin_1 : Int) (kind_1 : Int) (kind_2 : Int) (begin_2 : Int) (k3 : 0 ≤ x3 ∧ x3 ≤ 1999) (k14 : 1 ≤ x14 ∧ x14 ≤ 2000) (d0 : x3 + 1 ≤ x14 ∧ x14 ≤ x3 + 1) (g8 : x3 = next_2) (fe_0_5_1 : end_0 = end_1) (fe_0_6_1 : next_0 = next_1) (fe_0_8_1 : begin_0 = begin_1) (fe_0_9_1 : number_0 = number_1) (fe_0_5_2 : end_1 = end_2) (fe_0_6_2 : next_1 = x14) (fe_0_7_2 : kind_1 = kind_2) (fe_0_8_2 : begin_1 = begin_2) (fe_0_9_2 : number_1 = number_2) (fe_0_8_3 : begin_2 = x3) (fe_0_9_3 : number_2 = number_3) (kz_0_5 : 0 ≤ end_0 ∧ end_0 ≤ 2000) (kz_0_6 : 0 ≤ next_0 ∧ next_0 ≤ 2000) (kz_0_8 : 0 ≤ begin_0 ∧ begin_0 ≤ 2000) (kz_0_9 : (-2147483648) ≤ number_0 ∧ number_0 ≤ 1000000) : 1 * begin_0 + ((-1) * next_0 + 0) ≤ 0 := by
  subst fe_0_5_1
  subst fe_0_6_1
  subst fe_0_8_1
  subst fe_0_9_1
  subst fe_0_5_2
  subst fe_0_7_2
  subst fe_0_8_2
  subst fe_0_9_2
  subst fe_0_9_3
  first | assumption | omega | grind
def o_Re_advance_9 : or_T := (290, 17, [(0, (2, 0, 0, [8])), (1, (0, -2147483648, 1000000, [])), (3, (0, 0, 1999, [])), (14, (0, 1, 2000, [])), (16, (0, 1, 1, []))], [(24, [0, 2], []), (101, [2, 16], [7]), (101, [2, 14], [6]), (9, [3, 2], [6]), (101, [2, 3], [8])], [], [], [(20, [0, 0, 1], [31, 1, 3, 1, 1, 7, 0, 1, 1, 9, -1, 0, 0]), (20, [0, 0, 1], [31, 1, 3, 1, 1, 7, 0, -1, 1, 9, 1, 0, 0]), (20, [0, 0, 0, 0], [31, 1, -3, -1, 1, 7, 4008, 1, 1, 6, -1, 1, 8, 2000, 1, 7]), (20, [0, 0], [30, 0, 1, 1, 8, -1, 1, 6])], [], [(14, 3, 1, 1)])
theorem oo_Re_advance_9 {kA : Nat → ClassId} : or_ok PRD kA GG o_Re_advance_9 := by
  refine or_mk fun A ta ws vs hD hth hl => ?_
  intro t0 r0 t1 k1 t3 k3 t14 k14 t16 k16 d0 f2 ta1 w1 le1 s1 ta2 w2 le2 s2 f8 ta3 w3 le3 s3
  replace f2 := shm_5 f2
  have s1 : (∀ b j, w_el ws b j = w_el w1 b j) ∧ ∀ b j, w_fd ws b j = if b = v_ad (n_v vs 2) ∧ j = 7 then n_v vs 16 else w_fd w1 b j := s1.2
  have s2 : (∀ b j, w_el w1 b j = w_el w2 b j) ∧ ∀ b j, w_fd w1 b j = if b = v_ad (n_v vs 2) ∧ j = 6 then n_v vs 14 else w_fd w2 b j := s2.2
  replace f8 := shm_110 f8
  have s3 : (∀ b j, w_el w2 b j = w_el w3 b j) ∧ ∀ b j, w_fd w2 b j = if b = v_ad (n_v vs 2) ∧ j = 8 then n_v vs 3 else w_fd w3 b j := s3.2
  have q2 : n_v vs 2 = n_v vs 0 := f2.symm
  rw [q2] at s1
  rw [q2] at s2
  simp only [q2] at f8
  rw [q2] at s3
  have g8 : v_iv (n_v vs 3) = w_fi w2 (n_v vs 0) 6 := congrArg v_iv f8
  have fe_0_5_1 : w_fi ws (n_v vs 0) 5 = w_fi w1 (n_v vs 0) 5 := by show v_iv (w_fd _ _ _) = v_iv (w_fd _ _ _); rw [s1.2, if_neg (fun e => absurd e.2 (by decide))]
  have fe_0_6_1 : w_fi ws (n_v vs 0) 6 = w_fi w1 (n_v vs 0) 6 := by show v_iv (w_fd _ _ _) = v_iv (w_fd _ _ _); rw [s1.2, if_neg (fun e => absurd e.2 (by decide))]
  have fe_0_7_1 : w_fi ws (n_v vs 0) 7 = v_iv (n_v vs 16) := by show v_iv (w_fd _ _ _) = _; rw [s1.2, if_pos ⟨rfl, rfl⟩]
  have fe_0_8_1 : w_fi ws (n_v vs 0) 8 = w_fi w1 (n_v vs 0) 8 := by show v_iv (w_fd _ _ _) = v_iv (w_fd _ _ _); rw [s1.2, if_neg (fun e => absurd e.2 (by decide))]
  have fe_0_9_1 : w_fi ws (n_v vs 0) 9 = w_fi w1 (n_v vs 0) 9 := by show v_iv (w_fd _ _ _) = v_iv (w_fd _ _ _); rw [s1.2, if_neg (fun e => absurd e.2 (by decide))]
  have fe_0_5_2 : w_fi w1 (n_v vs 0) 5 = w_fi w2 (n_v vs 0) 5 := by show v_iv (w_fd _ _ _) = v_iv (w_fd _ _ _); rw [s2.2, if_neg (fun e => absurd e.2 (by decide))]
  have fe_0_6_2 : w_fi w1 (n_v vs 0) 6 = v_iv (n_v vs 14) := by show v_iv (w_fd _ _ _) = _; rw [s2.2, if_pos ⟨rfl, rfl⟩]
  have fe_0_7_2 : w_fi w1 (n_v vs 0) 7 = w_fi w2 (n_v vs 0) 7 := by show v_iv (w_fd _ _ _) = v_iv (w_fd _ _ _); rw [s2.2, if_neg (fun e => absurd e.2 (by decide))]
  have fe_0_8_2 : w_fi w1 (n_v vs 0) 8 = w_fi w2 (n_v vs 0) 8 := by show v_iv (w_fd _ _ _) = v_iv (w_fd _ _ _); rw [s2.2, if_neg (fun e => absurd e.2 (by decide))]
  have fe_0_9_2 : w_fi w1 (n_v vs 0) 9 = w_fi w2 (n_v vs 0) 9 := by show v_iv (w_fd _ _ _) = v_iv (w_fd _ _ _); rw [s2.2, if_neg (fun e => absurd e.2 (by decide))]
  have fe_0_8_3 : w_fi w2 (n_v vs 0) 8 = v_iv (n_v vs 3) := by show v_iv (w_fd _ _ _) = _; rw [s3.2, if_pos ⟨rfl, rfl⟩]
  have fe_0_9_3 : w_fi w2 (n_v vs 0) 9 = w_fi w3 (n_v vs 0) 9 := by show v_iv (w_fd _ _ _) = v_iv (w_fd _ _ _); rw [s3.2, if_neg (fun e => absurd e.2 (by decide))]
  have kz_0_5 := fdq_28 hD hth r0
  have kz_0_6 := fdq_29 hD hth r0
  have kz_0_7 := fdq_30 hD hth r0
  have kz_0_8 := fdq_31 hD hth r0
  have kz_0_9 := fdq_27 hD hth r0
  have nf0 : fc_1 PRD (20, [0, 0, 1], [31, 1, 3, 1, 1, 7, 0, 1, 1, 9, -1, 0, 0]) ws (vs) := ⟨nf_in hl rfl, sgq_201 (vc_Re_advance_9_0 (v_iv (n_v vs 1)) (v_iv (n_v vs 16)) (w_fi ws (n_v vs 0) 9) (w_fi w1 (n_v vs 0) 9) (w_fi w2 (n_v vs 0) 5) (w_fi w2 (n_v vs 0) 9) (w_fi w3 (n_v vs 0) 9) (w_fi ws (n_v vs 0) 5) (w_fi w1 (n_v vs 0) 5) (w_fi ws (n_v vs 0) 6) (w_fi w1 (n_v vs 0) 6) (w_fi ws (n_v vs 0) 7) (w_fi ws (n_v vs 0) 8) (w_fi w1 (n_v vs 0) 8) (w_fi w1 (n_v vs 0) 7) (w_fi w2 (n_v vs 0) 7) (w_fi w2 (n_v vs 0) 8) k1 k16 fe_0_5_1 fe_0_6_1 fe_0_7_1 fe_0_8_1 fe_0_9_1 fe_0_5_2 fe_0_7_2 fe_0_8_2 fe_0_9_2 fe_0_9_3 kz_0_5 kz_0_6 kz_0_7 kz_0_8 kz_0_9)⟩
  have nf1 : fc_1 PRD (20, [0, 0, 1], [31, 1, 3, 1, 1, 7, 0, -1, 1, 9, 1, 0, 0]) ws (vs) := ⟨nf_in hl rfl, sgq_202 (vc_Re_advance_9_1 (v_iv (n_v vs 1)) (v_iv (n_v vs 16)) (w_fi ws (n_v vs 0) 9) (w_fi w1 (n_v vs 0) 9) (w_fi w2 (n_v vs 0) 5) (w_fi w2 (n_v vs 0) 9) (w_fi w3 (n_v vs 0) 9) (w_fi ws (n_v vs 0) 5) (w_fi w1 (n_v vs 0) 5) (w_fi ws (n_v vs 0) 6) (w_fi w1 (n_v vs 0) 6) (w_fi ws (n_v vs 0) 7) (w_fi ws (n_v vs 0) 8) (w_fi w1 (n_v vs 0) 8) (w_fi w1 (n_v vs 0) 7) (w_fi w2 (n_v vs 0) 7) (w_fi w2 (n_v vs 0) 8) k1 k16 fe_0_5_1 fe_0_6_1 fe_0_7_1 fe_0_8_1 fe_0_9_1 fe_0_5_2 fe_0_7_2 fe_0_8_2 fe_0_9_2 fe_0_9_3 kz_0_5 kz_0_6 kz_0_7 kz_0_8 kz_0_9)⟩
  have nf2 : fc_1 PRD (20, [0, 0, 0, 0], [31, 1, -3, -1, 1, 7, 4008, 1, 1, 6, -1, 1, 8, 2000, 1, 7]) ws (vs) := ⟨nf_in hl rfl, sgq_203 (vc_Re_advance_9_2 (v_iv (n_v vs 3)) (v_iv (n_v vs 14)) (v_iv (n_v vs 16)) (w_fi ws (n_v vs 0) 9) (w_fi w1 (n_v vs 0) 9) (w_fi w2 (n_v vs 0) 6) (w_fi w2 (n_v vs 0) 5) (w_fi w2 (n_v vs 0) 9) (w_fi w3 (n_v vs 0) 9) (w_fi ws (n_v vs 0) 5) (w_fi w1 (n_v vs 0) 5) (w_fi ws (n_v vs 0) 6) (w_fi w1 (n_v vs 0) 6) (w_fi ws (n_v vs 0) 7) (w_fi ws (n_v vs 0) 8) (w_fi w1 (n_v vs 0) 8) (w_fi w1 (n_v vs 0) 7) (w_fi w2 (n_v vs 0) 7) (w_fi w2 (n_v vs 0) 8) k3 k14 k16 d0 g8 fe_0_5_1 fe_0_6_1 fe_0_7_1 fe_0_8_1 fe_0_9_1 fe_0_5_2 fe_0_6_2 fe_0_7_2 fe_0_8_2 fe_0_9_2 fe_0_8_3 fe_0_9_3 kz_0_5 kz_0_6 kz_0_7 kz_0_8 kz_0_9)⟩
  have nf3 : fc_1 PRD (20, [0, 0], [30, 0, 1, 1, 8, -1, 1, 6]) ws (vs) := ⟨nf_in hl rfl, sgq_204 (vc_Re_advance_9_3 (v_iv (n_v vs 3)) (v_iv (n_v vs 14)) (w_fi ws (n_v vs 0) 9) (w_fi w1 (n_v vs 0) 9) (w_fi w2 (n_v vs 0) 6) (w_fi w2 (n_v vs 0) 5) (w_fi w2 (n_v vs 0) 9) (w_fi w3 (n_v vs 0) 9) (w_fi ws (n_v vs 0) 5) (w_fi w1 (n_v vs 0) 5) (w_fi ws (n_v vs 0) 6) (w_fi w1 (n_v vs 0) 6) (w_fi ws (n_v vs 0) 8) (w_fi w1 (n_v vs 0) 8) (w_fi w1 (n_v vs 0) 7) (w_fi w2 (n_v vs 0) 7) (w_fi w2 (n_v vs 0) 8) k3 k14 d0 g8 fe_0_5_1 fe_0_6_1 fe_0_8_1 fe_0_9_1 fe_0_5_2 fe_0_6_2 fe_0_7_2 fe_0_8_2 fe_0_9_2 fe_0_8_3 fe_0_9_3 kz_0_5 kz_0_6 kz_0_8 kz_0_9)⟩
  refine ⟨(fun _ h => (by cases h)), [], trivial, ?_, (fun _ h => (by cases h))⟩
  rw [List.append_nil]
  exact List.forall_mem_cons.mpr ⟨⟨show (20 : Nat) < 100 from by decide, nf0⟩, List.forall_mem_cons.mpr ⟨⟨show (20 : Nat) < 100 from by decide, nf1⟩, List.forall_mem_cons.mpr ⟨⟨show (20 : Nat) < 100 from by decide, nf2⟩, List.forall_mem_cons.mpr ⟨⟨show (20 : Nat) < 100 from by decide, nf3⟩, (fun _ h => (by cases h))⟩⟩⟩⟩
def o_Re_advance_10 : or_T := (290, 16, [(0, (2, 0, 0, [8])), (1, (0, -2147483648, 1000000, [])), (2, (2, 0, 0, [8])), (3, (0, 0, 1999, [])), (4, (0, 1, 2000, [])), (5, (2, 0, 0, [109])), (6, (0, -128, 127, [])), (7, (0, 32, 32, [])), (8, (0, -128, 127, [])), (9, (0, 10, 10, [])), (10, (0, -128, 47, [])), (13, (0, 1, 1, [])), (14, (0, 1, 2000, []))], [(20, [2, 1], [30, 0, 1, 1, 9, -1, 0, 0]), (20, [2, 1], [30, 0, -1, 1, 9, 1, 0, 0]), (24, [0, 2], []), (101, [2, 10], [7]), (20, [2, 1], [30, 0, 1, 1, 9, -1, 0, 0]), (20, [2, 1], [30, 0, -1, 1, 9, 1, 0, 0]), (101, [2, 14], [6]), (1, [14, 3, 13], []), (9, [3, 2], [6]), (10, [10, 5, 3], []), (9, [5, 2], [0]), (7, [3, 4], [2]), (9, [4, 2], [5]), (20, [2, 1], [30, 0, 1, 1, 9, -1, 0, 0]), (20, [2, 1], [30, 0, -1, 1, 9, 1, 0, 0]), (101, [2, 3], [8]), (7, [8, 9], [1]), (10, [8, 5, 3], []), (7, [6, 7], [1]), (10, [6, 5, 3], []), (7, [3, 4], [2]), (20, [2, 1], [30, 0, 1, 1, 9, -1, 0, 0]), (20, [2, 1], [30, 0, -1, 1, 9, 1, 0, 0])], [], [], [(20, [0, 0, 1], [31, 1, 3, 1, 1, 7, 0, 1, 1, 9, -1, 0, 0]), (20, [0, 0, 1], [31, 1, 3, 1, 1, 7, 0, -1, 1, 9, 1, 0, 0]), (20, [0, 0, 0, 0], [31, 1, -3, -1, 1, 7, 4008, 1, 1, 6, -1, 1, 8, 2000, 1, 7]), (20, [0, 0], [30, 0, 1, 1, 8, -1, 1, 6])], [], [(14, 3, 1, 1), (14, 4, -4294967296, 0), (3, 4, -4294967296, -1)])
theorem oo_Re_advance_10 {kA : Nat → ClassId} : or_ok PRD kA GG o_Re_advance_10 := by
  refine or_mk fun A ta ws vs hD hth hl => ?_
  intro t0 r0 t1 k1 t2 r2 t3 k3 t4 k4 t5 r5 t6 k6 t7 k7 t8 k8 t9 k9 t10 k10 t13 k13 t14 k14 d0 d1 d2 f0 f1 f2 ta1 w1 le1 s1 f4 f5 ta2 w2 le2 s2 f7 f8 f9 f10 f11 f12 f13 f14 ta3 w3 le3 s3 f16 f17 f18 f19 f20 f21 f22
  replace f0 := shm_199 f0
  replace f1 := shm_200 f1
  replace f2 := shm_5 f2
  have s1 : (∀ b j, w_el ws b j = w_el w1 b j) ∧ ∀ b j, w_fd ws b j = if b = v_ad (n_v vs 2) ∧ j = 7 then n_v vs 10 else w_fd w1 b j := s1.2
  replace f4 := shm_199 f4
  replace f5 := shm_200 f5
  have s2 : (∀ b j, w_el w1 b j = w_el w2 b j) ∧ ∀ b j, w_fd w1 b j = if b = v_ad (n_v vs 2) ∧ j = 6 then n_v vs 14 else w_fd w2 b j := s2.2
  replace f7 := shm_12 f7
  replace f8 := shm_110 f8
  replace f9 := shm_106 f9
  replace f10 := shm_175 f10
  replace f11 := shm_6 f11
  replace f12 := shm_109 f12
  replace f13 := shm_199 f13
  replace f14 := shm_200 f14
  have s3 : (∀ b j, w_el w2 b j = w_el w3 b j) ∧ ∀ b j, w_fd w2 b j = if b = v_ad (n_v vs 2) ∧ j = 8 then n_v vs 3 else w_fd w3 b j := s3.2
  replace f16 := shm_40 f16
  replace f17 := shm_106 f17
  replace f18 := shm_40 f18
  replace f19 := shm_106 f19
  replace f20 := shm_6 f20
  replace f21 := shm_199 f21
  replace f22 := shm_200 f22
  have q2 : n_v vs 2 = n_v vs 0 := f2.symm
  simp only [q2] at f0 f1
  rw [q2] at s1
  simp only [q2] at f4 f5
  rw [q2] at s2
  simp only [q2] at f8 f10 f12 f13 f14
  rw [q2] at s3
  simp only [q2] at f21 f22
  have ar_0_0_1 : w_ar w1 (n_v vs 0) 0 = w_ar ws (n_v vs 0) 0 := by show v_ad (w_fd w1 _ _) = v_ad (w_fd ws _ _); rw [s1.2, if_neg (fun e => absurd e.2 (by decide))]
  have ar_0_0_2 : w_ar w2 (n_v vs 0) 0 = w_ar ws (n_v vs 0) 0 := by rw [← ar_0_0_1]; show v_ad (w_fd w2 _ _) = v_ad (w_fd w1 _ _); rw [s2.2, if_neg (fun e => absurd e.2 (by decide))]
  have ar_0_0_3 : w_ar w3 (n_v vs 0) 0 = w_ar ws (n_v vs 0) 0 := by rw [← ar_0_0_2]; show v_ad (w_fd w3 _ _) = v_ad (w_fd w2 _ _); rw [s3.2, if_neg (fun e => absurd e.2 (by decide))]
  have cr_0_0 := fdq_32 hD hth r0
  have ad_5 : v_ad (n_v vs 5) = w_ar ws (n_v vs 0) 0 := (congrArg v_ad f10).trans ar_0_0_2
  have g8 : v_iv (n_v vs 3) = w_fi w2 (n_v vs 0) 6 := congrArg v_iv f8
  simp only [ad_5] at f9
  have h9 : v_iv (n_v vs 10) = w_ei w2 (w_ar ws (n_v vs 0) 0) (v_iv (n_v vs 3)) := f9
  have g12 : v_iv (n_v vs 4) = w_fi w2 (n_v vs 0) 5 := congrArg v_iv f12
  simp only [ad_5] at f17
  have h17 : v_iv (n_v vs 8) = w_ei w3 (w_ar ws (n_v vs 0) 0) (v_iv (n_v vs 3)) := f17
  simp only [ad_5] at f19
  have h19 : v_iv (n_v vs 6) = w_ei w3 (w_ar ws (n_v vs 0) 0) (v_iv (n_v vs 3)) := f19
  have fe_0_5_1 : w_fi ws (n_v vs 0) 5 = w_fi w1 (n_v vs 0) 5 := by show v_iv (w_fd _ _ _) = v_iv (w_fd _ _ _); rw [s1.2, if_neg (fun e => absurd e.2 (by decide))]
  have fe_0_6_1 : w_fi ws (n_v vs 0) 6 = w_fi w1 (n_v vs 0) 6 := by show v_iv (w_fd _ _ _) = v_iv (w_fd _ _ _); rw [s1.2, if_neg (fun e => absurd e.2 (by decide))]
  have fe_0_7_1 : w_fi ws (n_v vs 0) 7 = v_iv (n_v vs 10) := by show v_iv (w_fd _ _ _) = _; rw [s1.2, if_pos ⟨rfl, rfl⟩]
  have fe_0_8_1 : w_fi ws (n_v vs 0) 8 = w_fi w1 (n_v vs 0) 8 := by show v_iv (w_fd _ _ _) = v_iv (w_fd _ _ _); rw [s1.2, if_neg (fun e => absurd e.2 (by decide))]
  have fe_0_9_1 : w_fi ws (n_v vs 0) 9 = w_fi w1 (n_v vs 0) 9 := by show v_iv (w_fd _ _ _) = v_iv (w_fd _ _ _); rw [s1.2, if_neg (fun e => absurd e.2 (by decide))]
  have ee_0_0_3_1 : w_el ws (w_ar ws (n_v vs 0) 0) (v_iv (n_v vs 3)).toNat = w_el w1 (w_ar ws (n_v vs 0) 0) (v_iv (n_v vs 3)).toNat := s1.1 _ _
  have fe_0_5_2 : w_fi w1 (n_v vs 0) 5 = w_fi w2 (n_v vs 0) 5 := by show v_iv (w_fd _ _ _) = v_iv (w_fd _ _ _); rw [s2.2, if_neg (fun e => absurd e.2 (by decide))]
  have fe_0_6_2 : w_fi w1 (n_v vs 0) 6 = v_iv (n_v vs 14) := by show v_iv (w_fd _ _ _) = _; rw [s2.2, if_pos ⟨rfl, rfl⟩]
  have fe_0_7_2 : w_fi w1 (n_v vs 0) 7 = w_fi w2 (n_v vs 0) 7 := by show v_iv (w_fd _ _ _) = v_iv (w_fd _ _ _); rw [s2.2, if_neg (fun e => absurd e.2 (by decide))]
  have fe_0_8_2 : w_fi w1 (n_v vs 0) 8 = w_fi w2 (n_v vs 0) 8 := by show v_iv (w_fd _ _ _) = v_iv (w_fd _ _ _); rw [s2.2, if_neg (fun e => absurd e.2 (by decide))]
  have fe_0_9_2 : w_fi w1 (n_v vs 0) 9 = w_fi w2 (n_v vs 0) 9 := by show v_iv (w_fd _ _ _) = v_iv (w_fd _ _ _); rw [s2.2, if_neg (fun e => absurd e.2 (by decide))]
  have ee_0_0_3_2 : w_el w1 (w_ar ws (n_v vs 0) 0) (v_iv (n_v vs 3)).toNat = w_el w2 (w_ar ws (n_v vs 0) 0) (v_iv (n_v vs 3)).toNat := s2.1 _ _
  have fe_0_5_3 : w_fi w2 (n_v vs 0) 5 = w_fi w3 (n_v vs 0) 5 := by show v_iv (w_fd _ _ _) = v_iv (w_fd _ _ _); rw [s3.2, if_neg (fun e => absurd e.2 (by decide))]
  have fe_0_6_3 : w_fi w2 (n_v vs 0) 6 = w_fi w3 (n_v vs 0) 6 := by show v_iv (w_fd _ _ _) = v_iv (w_fd _ _ _); rw [s3.2, if_neg (fun e => absurd e.2 (by decide))]
  have fe_0_7_3 : w_fi w2 (n_v vs 0) 7 = w_fi w3 (n_v vs 0) 7 := by show v_iv (w_fd _ _ _) = v_iv (w_fd _ _ _); rw [s3.2, if_neg (fun e => absurd e.2 (by decide))]
  have fe_0_8_3 : w_fi w2 (n_v vs 0) 8 = v_iv (n_v vs 3) := by show v_iv (w_fd _ _ _) = _; rw [s3.2, if_pos ⟨rfl, rfl⟩]
  have fe_0_9_3 : w_fi w2 (n_v vs 0) 9 = w_fi w3 (n_v vs 0) 9 := by show v_iv (w_fd _ _ _) = v_iv (w_fd _ _ _); rw [s3.2, if_neg (fun e => absurd e.2 (by decide))]
  have ee_0_0_3_3 : w_el w2 (w_ar ws (n_v vs 0) 0) (v_iv (n_v vs 3)).toNat = w_el w3 (w_ar ws (n_v vs 0) 0) (v_iv (n_v vs 3)).toNat := s3.1 _ _
  have kz_0_5 := fdq_28 hD hth r0
  have kz_0_6 := fdq_29 hD hth r0
  have kz_0_7 := fdq_30 hD hth r0
  have kz_0_8 := fdq_31 hD hth r0
  have kz_0_9 := fdq_27 hD hth r0
  have nf0 : fc_1 PRD (20, [0, 0, 1], [31, 1, 3, 1, 1, 7, 0, 1, 1, 9, -1, 0, 0]) ws (vs) := by
    refine ⟨nf_in hl rfl, sgq_201 ?_⟩
    · show (1 * w_fi ws (n_v vs 0) 7 + 0 ≤ 3) ∨ (1 * w_fi ws (n_v vs 0) 9 + ((-1) * v_iv (n_v vs 1) + 0) ≤ 0)
      omega
  have nf1 : fc_1 PRD (20, [0, 0, 1], [31, 1, 3, 1, 1, 7, 0, -1, 1, 9, 1, 0, 0]) ws (vs) := by
    refine ⟨nf_in hl rfl, sgq_202 ?_⟩
    · show (1 * w_fi ws (n_v vs 0) 7 + 0 ≤ 3) ∨ ((-1) * w_fi ws (n_v vs 0) 9 + (1 * v_iv (n_v vs 1) + 0) ≤ 0)
      omega
  have nf2 : fc_1 PRD (20, [0, 0, 0, 0], [31, 1, -3, -1, 1, 7, 4008, 1, 1, 6, -1, 1, 8, 2000, 1, 7]) ws (vs) := by
    refine ⟨nf_in hl rfl, sgq_203 ?_⟩
    · show ((-1) * w_fi ws (n_v vs 0) 7 + 0 ≤ (-3)) ∨ (1 * w_fi ws (n_v vs 0) 6 + ((-1) * w_fi ws (n_v vs 0) 8 + (2000 * w_fi ws (n_v vs 0) 7 + 0)) ≤ 4008)
      omega
  have nf3 : fc_1 PRD (20, [0, 0], [30, 0, 1, 1, 8, -1, 1, 6]) ws (vs) := by
    refine ⟨nf_in hl rfl, sgq_204 ?_⟩
    · show 1 * w_fi ws (n_v vs 0) 8 + ((-1) * w_fi ws (n_v vs 0) 6 + 0) ≤ 0
      omega
  refine ⟨(fun _ h => (by cases h)), [], trivial, ?_, (fun _ h => (by cases h))⟩
  rw [List.append_nil]
  exact List.forall_mem_cons.mpr ⟨⟨show (20 : Nat) < 100 from by decide, nf0⟩, List.forall_mem_cons.mpr ⟨⟨show (20 : Nat) < 100 from by decide, nf1⟩, List.forall_mem_cons.mpr ⟨⟨show (20 : Nat) < 100 from by decide, nf2⟩, List.forall_mem_cons.mpr ⟨⟨show (20 : Nat) < 100 from by decide, nf3⟩, (fun _ h => (by cases h))⟩⟩⟩⟩
def o_Re_advance_11 : or_T := (290, 16, [(0, (2, 0, 0, [8])), (1, (0, -2147483648, 1000000, [])), (2, (2, 0, 0, [8])), (3, (0, 0, 1999, [])), (4, (0, 1, 2000, [])), (5, (2, 0, 0, [109])), (6, (0, -128, 127, [])), (7, (0, 32, 32, [])), (8, (0, -128, 127, [])), (9, (0, 10, 10, [])), (10, (0, 58, 64, [])), (13, (0, 1, 1, [])), (14, (0, 1, 2000, []))], [(20, [2, 1], [30, 0, 1, 1, 9, -1, 0, 0]), (20, [2, 1], [30, 0, -1, 1, 9, 1, 0, 0]), (24, [0, 2], []), (101, [2, 10], [7]), (20, [2, 1], [30, 0, 1, 1, 9, -1, 0, 0]), (20, [2, 1], [30, 0, -1, 1, 9, 1, 0, 0]), (101, [2, 14], [6]), (1, [14, 3, 13], []), (9, [3, 2], [6]), (10, [10, 5, 3], []), (9, [5, 2], [0]), (7, [3, 4], [2]), (9, [4, 2], [5]), (20, [2, 1], [30, 0, 1, 1, 9, -1, 0, 0]), (20, [2, 1], [30, 0, -1, 1, 9, 1, 0, 0]), (101, [2, 3], [8]), (7, [8, 9], [1]), (10, [8, 5, 3], []), (7, [6, 7], [1]), (10, [6, 5, 3], []), (7, [3, 4], [2]), (20, [2, 1], [30, 0, 1, 1, 9, -1, 0, 0]), (20, [2, 1], [30, 0, -1, 1, 9, 1, 0, 0])], [], [], [(20, [0, 0, 1], [31, 1, 3, 1, 1, 7, 0, 1, 1, 9, -1, 0, 0]), (20, [0, 0, 1], [31, 1, 3, 1, 1, 7, 0, -1, 1, 9, 1, 0, 0]), (20, [0, 0, 0, 0], [31, 1, -3, -1, 1, 7, 4008, 1, 1, 6, -1, 1, 8, 2000, 1, 7]), (20, [0, 0], [30, 0, 1, 1, 8, -1, 1, 6])], [], [(14, 3, 1, 1), (14, 4, -4294967296, 0), (3, 4, -4294967296, -1)])
theorem oo_Re_advance_11 {kA : Nat → ClassId} : or_ok PRD kA GG o_Re_advance_11 := by
  refine or_mk fun A ta ws vs hD hth hl => ?_
  intro t0 r0 t1 k1 t2 r2 t3 k3 t4 k4 t5 r5 t6 k6 t7 k7 t8 k8 t9 k9 t10 k10 t13 k13 t14 k14 d0 d1 d2 f0 f1 f2 ta1 w1 le1 s1 f4 f5 ta2 w2 le2 s2 f7 f8 f9 f10 f11 f12 f13 f14 ta3 w3 le3 s3 f16 f17 f18 f19 f20 f21 f22
  replace f0 := shm_199 f0
  replace f1 := shm_200 f1
  replace f2 := shm_5 f2
  have s1 : (∀ b j, w_el ws b j = w_el w1 b j) ∧ ∀ b j, w_fd ws b j = if b = v_ad (n_v vs 2) ∧ j = 7 then n_v vs 10 else w_fd w1 b j := s1.2
  replace f4 := shm_199 f4
  replace f5 := shm_200 f5
  have s2 : (∀ b j, w_el w1 b j = w_el w2 b j) ∧ ∀ b j, w_fd w1 b j = if b = v_ad (n_v vs 2) ∧ j = 6 then n_v vs 14 else w_fd w2 b j := s2.2
  replace f7 := shm_12 f7
  replace f8 := shm_110 f8
  replace f9 := shm_106 f9
  replace f10 := shm_175 f10
  replace f11 := shm_6 f11
  replace f12 := shm_109 f12
  replace f13 := shm_199 f13
  replace f14 := shm_200 f14
  have s3 : (∀ b j, w_el w2 b j = w_el w3 b j) ∧ ∀ b j, w_fd w2 b j = if b = v_ad (n_v vs 2) ∧ j = 8 then n_v vs 3 else w_fd w3 b j := s3.2
  replace f16 := shm_40 f16
  replace f17 := shm_106 f17
  replace f18 := shm_40 f18
  replace f19 := shm_106 f19
  replace f20 := shm_6 f20
  replace f21 := shm_199 f21
  replace f22 := shm_200 f22
  have q2 : n_v vs 2 = n_v vs 0 := f2.symm
  simp only [q2] at f0 f1
  rw [q2] at s1
  simp only [q2] at f4 f5
  rw [q2] at s2
  simp only [q2] at f8 f10 f12 f13 f14
  rw [q2] at s3
  simp only [q2] at f21 f22
  have ar_0_0_1 : w_ar w1 (n_v vs 0) 0 = w_ar ws (n_v vs 0) 0 := by show v_ad (w_fd w1 _ _) = v_ad (w_fd ws _ _); rw [s1.2, if_neg (fun e => absurd e.2 (by decide))]
  have ar_0_0_2 : w_ar w2 (n_v vs 0) 0 = w_ar ws (n_v vs 0) 0 := by rw [← ar_0_0_1]; show v_ad (w_fd w2 _ _) = v_ad (w_fd w1 _ _); rw [s2.2, if_neg (fun e => absurd e.2 (by decide))]
  have ar_0_0_3 : w_ar w3 (n_v vs 0) 0 = w_ar ws (n_v vs 0) 0 := by rw [← ar_0_0_2]; show v_ad (w_fd w3 _ _) = v_ad (w_fd w2 _ _); rw [s3.2, if_neg (fun e => absurd e.2 (by decide))]
  have cr_0_0 := fdq_32 hD hth r0
  have ad_5 : v_ad (n_v vs 5) = w_ar ws (n_v vs 0) 0 := (congrArg v_ad f10).trans ar_0_0_2
  have g8 : v_iv (n_v vs 3) = w_fi w2 (n_v vs 0) 6 := congrArg v_iv f8
  simp only [ad_5] at f9
  have h9 : v_iv (n_v vs 10) = w_ei w2 (w_ar ws (n_v vs 0) 0) (v_iv (n_v vs 3)) := f9
  have g12 : v_iv (n_v vs 4) = w_fi w2 (n_v vs 0) 5 := congrArg v_iv f12
  simp only [ad_5] at f17
  have h17 : v_iv (n_v vs 8) = w_ei w3 (w_ar ws (n_v vs 0) 0) (v_iv (n_v vs 3)) := f17
  simp only [ad_5] at f19
  have h19 : v_iv (n_v vs 6) = w_ei w3 (w_ar ws (n_v vs 0) 0) (v_iv (n_v vs 3)) := f19
  have fe_0_5_1 : w_fi ws (n_v vs 0) 5 = w_fi w1 (n_v vs 0) 5 := by show v_iv (w_fd _ _ _) = v_iv (w_fd _ _ _); rw [s1.2, if_neg (fun e => absurd e.2 (by decide))]
  have fe_0_6_1 : w_fi ws (n_v vs 0) 6 = w_fi w1 (n_v vs 0) 6 := by show v_iv (w_fd _ _ _) = v_iv (w_fd _ _ _); rw [s1.2, if_neg (fun e => absurd e.2 (by decide))]
  have fe_0_7_1 : w_fi ws (n_v vs 0) 7 = v_iv (n_v vs 10) := by show v_iv (w_fd _ _ _) = _; rw [s1.2, if_pos ⟨rfl, rfl⟩]
  have fe_0_8_1 : w_fi ws (n_v vs 0) 8 = w_fi w1 (n_v vs 0) 8 := by show v_iv (w_fd _ _ _) = v_iv (w_fd _ _ _); rw [s1.2, if_neg (fun e => absurd e.2 (by decide))]
  have fe_0_9_1 : w_fi ws (n_v vs 0) 9 = w_fi w1 (n_v vs 0) 9 := by show v_iv (w_fd _ _ _) = v_iv (w_fd _ _ _); rw [s1.2, if_neg (fun e => absurd e.2 (by decide))]
  have ee_0_0_3_1 : w_el ws (w_ar ws (n_v vs 0) 0) (v_iv (n_v vs 3)).toNat = w_el w1 (w_ar ws (n_v vs 0) 0) (v_iv (n_v vs 3)).toNat := s1.1 _ _
  have fe_0_5_2 : w_fi w1 (n_v vs 0) 5 = w_fi w2 (n_v vs 0) 5 := by show v_iv (w_fd _ _ _) = v_iv (w_fd _ _ _); rw [s2.2, if_neg (fun e => absurd e.2 (by decide))]
  have fe_0_6_2 : w_fi w1 (n_v vs 0) 6 = v_iv (n_v vs 14) := by show v_iv (w_fd _ _ _) = _; rw [s2.2, if_pos ⟨rfl, rfl⟩]
  have fe_0_7_2 : w_fi w1 (n_v vs 0) 7 = w_fi w2 (n_v vs 0) 7 := by show v_iv (w_fd _ _ _) = v_iv (w_fd _ _ _); rw [s2.2, if_neg (fun e => absurd e.2 (by decide))]
  have fe_0_8_2 : w_fi w1 (n_v vs 0) 8 = w_fi w2 (n_v vs 0) 8 := by show v_iv (w_fd _ _ _) = v_iv (w_fd _ _ _); rw [s2.2, if_neg (fun e => absurd e.2 (by decide))]
  have fe_0_9_2 : w_fi w1 (n_v vs 0) 9 = w_fi w2 (n_v vs 0) 9 := by show v_iv (w_fd _ _ _) = v_iv (w_fd _ _ _); rw [s2.2, if_neg (fun e => absurd e.2 (by decide))]
  have ee_0_0_3_2 : w_el w1 (w_ar ws (n_v vs 0) 0) (v_iv (n_v vs 3)).toNat = w_el w2 (w_ar ws (n_v vs 0) 0) (v_iv (n_v vs 3)).toNat := s2.1 _ _
  have fe_0_5_3 : w_fi w2 (n_v vs 0) 5 = w_fi w3 (n_v vs 0) 5 := by show v_iv (w_fd _ _ _) = v_iv (w_fd _ _ _); rw [s3.2, if_neg (fun e => absurd e.2 (by decide))]
  have fe_0_6_3 : w_fi w2 (n_v vs 0) 6 = w_fi w3 (n_v vs 0) 6 := by show v_iv (w_fd _ _ _) = v_iv (w_fd _ _ _); rw [s3.2, if_neg (fun e => absurd e.2 (by decide))]
  have fe_0_7_3 : w_fi w2 (n_v vs 0) 7 = w_fi w3 (n_v vs 0) 7 := by show v_iv (w_fd _ _ _) = v_iv (w_fd _ _ _); rw [s3.2, if_neg (fun e => absurd e.2 (by decide))]
  have fe_0_8_3 : w_fi w2 (n_v vs 0) 8 = v_iv (n_v vs 3) := by show v_iv (w_fd _ _ _) = _; rw [s3.2, if_pos ⟨rfl, rfl⟩]
  have fe_0_9_3 : w_fi w2 (n_v vs 0) 9 = w_fi w3 (n_v vs 0) 9 := by show v_iv (w_fd _ _ _) = v_iv (w_fd _ _ _); rw [s3.2, if_neg (fun e => absurd e.2 (by decide))]
  have ee_0_0_3_3 : w_el w2 (w_ar ws (n_v vs 0) 0) (v_iv (n_v vs 3)).toNat = w_el w3 (w_ar ws (n_v vs 0) 0) (v_iv (n_v vs 3)).toNat := s3.1 _ _
  have kz_0_5 := fdq_28 hD hth r0
  have kz_0_6 := fdq_29 hD hth r0
  have kz_0_7 := fdq_30 hD hth r0
  have kz_0_8 := fdq_31 hD hth r0
  have kz_0_9 := fdq_27 hD hth r0
  have nf0 : fc_1 PRD (20, [0, 0, 1], [31, 1, 3, 1, 1, 7, 0, 1, 1, 9, -1, 0, 0]) ws (vs) := by
    refine ⟨nf_in hl rfl, sgq_201 ?_⟩
    · show (1 * w_fi ws (n_v vs 0) 7 + 0 ≤ 3) ∨ (1 * w_fi ws (n_v vs 0) 9 + ((-1) * v_iv (n_v vs 1) + 0) ≤ 0)
      omega
  have nf1 : fc_1 PRD (20, [0, 0, 1], [31, 1, 3, 1, 1, 7, 0, -1, 1, 9, 1, 0, 0]) ws (vs) := by
    refine ⟨nf_in hl rfl, sgq_202 ?_⟩
    · show (1 * w_fi ws (n_v vs 0) 7 + 0 ≤ 3) ∨ ((-1) * w_fi ws (n_v vs 0) 9 + (1 * v_iv (n_v vs 1) + 0) ≤ 0)
      omega
  have nf2 : fc_1 PRD (20, [0, 0, 0, 0], [31, 1, -3, -1, 1, 7, 4008, 1, 1, 6, -1, 1, 8, 2000, 1, 7]) ws (vs) := by
    refine ⟨nf_in hl rfl, sgq_203 ?_⟩
    · show ((-1) * w_fi ws (n_v vs 0) 7 + 0 ≤ (-3)) ∨ (1 * w_fi ws (n_v vs 0) 6 + ((-1) * w_fi ws (n_v vs 0) 8 + (2000 * w_fi ws (n_v vs 0) 7 + 0)) ≤ 4008)
      omega
  have nf3 : fc_1 PRD (20, [0, 0], [30, 0, 1, 1, 8, -1, 1, 6]) ws (vs) := by
    refine ⟨nf_in hl rfl, sgq_204 ?_⟩
    · show 1 * w_fi ws (n_v vs 0) 8 + ((-1) * w_fi ws (n_v vs 0) 6 + 0) ≤ 0
      omega
  refine ⟨(fun _ h => (by cases h)), [], trivial, ?_, (fun _ h => (by cases h))⟩
  rw [List.append_nil]
  exact List.forall_mem_cons.mpr ⟨⟨show (20 : Nat) < 100 from by decide, nf0⟩, List.forall_mem_cons.mpr ⟨⟨show (20 : Nat) < 100 from by decide, nf1⟩, List.forall_mem_cons.mpr ⟨⟨show (20 : Nat) < 100 from by decide, nf2⟩, List.forall_mem_cons.mpr ⟨⟨show (20 : Nat) < 100 from by decide, nf3⟩, (fun _ h => (by cases h))⟩⟩⟩⟩
set_option maxHeartbeats 4000000 in
theorem vc_Re_advance_12_0 (x3 : Int) (next_1 : Int) (end_1 : Int) (number_1 : Int) (number_2 : Int) (end_0 : Int) (next_0 : Int) (begin_0 : Int) (begin_1 : Int) (k3 : 0 ≤ x3 ∧ x3 ≤ 1999) (g2 : x3 = next_1) (fe_0_5_1 : end_0 = end_1) (fe_0_6_1 : next_0 = next_1) (fe_0_8_1 : begin_0 = begin_1) (fe_0_8_2 : begin_1 = x3) (fe_0_9_2 : number_1 = number_2) (kz_0_5 : 0 ≤ end_0 ∧ end_0 ≤ 2000) (kz_0_6 : 0 ≤ next_0 ∧ next_0 ≤ 2000) (kz_0_8 : 0 ≤ begin_0 ∧ begin_0 ≤ 2000) : 1 * begin_0 + ((-1) * next_0 + 0) ≤ 0 := by
  subst fe_0_5_1
  subst fe_0_6_1
  subst fe_0_8_1
  subst fe_0_9_2
  first | assumption | omega | grind
def o_Re_advance_12 : or_T := (171, 14, [(0, (2, 0, 0, [8])), (3, (0, 0, 1999, []))], [(24, [0, 2], []), (101, [2, 13], [9]), (9, [3, 2], [6]), (101, [2, 3], [8])], [], [], [(20, [2, 2], [30, 0, 1, 1, 8, -1, 1, 6])], [], [])
theorem oo_Re_advance_12 {kA : Nat → ClassId} : or_ok PRD kA GG o_Re_advance_12 := by
  refine or_mk fun A ta ws vs hD hth hl => ?_
  intro t0 r0 t3 k3 f0 ta1 w1 le1 s1 f2 ta2 w2 le2 s2
  replace f0 := shm_5 f0
  have s1 : (∀ b j, w_el ws b j = w_el w1 b j) ∧ ∀ b j, w_fd ws b j = if b = v_ad (n_v vs 2) ∧ j = 9 then n_v vs 13 else w_fd w1 b j := s1.2
  replace f2 := shm_110 f2
  have s2 : (∀ b j, w_el w1 b j = w_el w2 b j) ∧ ∀ b j, w_fd w1 b j = if b = v_ad (n_v vs 2) ∧ j = 8 then n_v vs 3 else w_fd w2 b j := s2.2
  have q2 : n_v vs 2 = n_v vs 0 := f0.symm
  rw [q2] at s1
  simp only [q2] at f2
  rw [q2] at s2
  have g2 : v_iv (n_v vs 3) = w_fi w1 (n_v vs 0) 6 := congrArg v_iv f2
  have fe_0_5_1 : w_fi ws (n_v vs 0) 5 = w_fi w1 (n_v vs 0) 5 := by show v_iv (w_fd _ _ _) = v_iv (w_fd _ _ _); rw [s1.2, if_neg (fun e => absurd e.2 (by decide))]
  have fe_0_6_1 : w_fi ws (n_v vs 0) 6 = w_fi w1 (n_v vs 0) 6 := by show v_iv (w_fd _ _ _) = v_iv (w_fd _ _ _); rw [s1.2, if_neg (fun e => absurd e.2 (by decide))]
  have fe_0_8_1 : w_fi ws (n_v vs 0) 8 = w_fi w1 (n_v vs 0) 8 := by show v_iv (w_fd _ _ _) = v_iv (w_fd _ _ _); rw [s1.2, if_neg (fun e => absurd e.2 (by decide))]
  have fe_0_8_2 : w_fi w1 (n_v vs 0) 8 = v_iv (n_v vs 3) := by show v_iv (w_fd _ _ _) = _; rw [s2.2, if_pos ⟨rfl, rfl⟩]
  have fe_0_9_2 : w_fi w1 (n_v vs 0) 9 = w_fi w2 (n_v vs 0) 9 := by show v_iv (w_fd _ _ _) = v_iv (w_fd _ _ _); rw [s2.2, if_neg (fun e => absurd e.2 (by decide))]
  have kz_0_5 := fdq_28 hD hth r0
  have kz_0_6 := fdq_29 hD hth r0
  have kz_0_8 := fdq_31 hD hth r0
  have nf0 : fc_1 PRD (20, [2, 2], [30, 0, 1, 1, 8, -1, 1, 6]) ws (vs) := by
    refine ⟨nf_in hl rfl, sgq_204 ?_⟩
    · show 1 * w_fi ws (n_v vs 2) 8 + ((-1) * w_fi ws (n_v vs 2) 6 + 0) ≤ 0
      rw [q2]
      exact vc_Re_advance_12_0 (v_iv (n_v vs 3)) (w_fi w1 (n_v vs 0) 6) (w_fi w1 (n_v vs 0) 5) (w_fi w1 (n_v vs 0) 9) (w_fi w2 (n_v vs 0) 9) (w_fi ws (n_v vs 0) 5) (w_fi ws (n_v vs 0) 6) (w_fi ws (n_v vs 0) 8) (w_fi w1 (n_v vs 0) 8) k3 g2 fe_0_5_1 fe_0_6_1 fe_0_8_1 fe_0_8_2 fe_0_9_2 kz_0_5 kz_0_6 kz_0_8
  refine ⟨(fun _ h => (by cases h)), [], trivial, ?_, (fun _ h => (by cases h))⟩
  rw [List.append_nil]
  exact List.forall_mem_cons.mpr ⟨⟨show (20 : Nat) < 100 from by decide, nf0⟩, (fun _ h => (by cases h))⟩
def o_Re_advance_13 : or_T := (290, 16, [(0, (2, 0, 0, [8])), (1, (0, -2147483648, 1000000, [])), (2, (2, 0, 0, [8])), (3, (0, 0, 1999, [])), (4, (0, 1, 2000, [])), (5, (2, 0, 0, [109])), (6, (0, -128, 127, [])), (7, (0, 32, 32, [])), (8, (0, -128, 127, [])), (9, (0, 10, 10, [])), (10, (0, 91, 96, [])), (13, (0, 1, 1, [])), (14, (0, 1, 2000, []))], [(20, [2, 1], [30, 0, 1, 1, 9, -1, 0, 0]), (20, [2, 1], [30, 0, -1, 1, 9, 1, 0, 0]), (24, [0, 2], []), (101, [2, 10], [7]), (20, [2, 1], [30, 0, 1, 1, 9, -1, 0, 0]), (20, [2, 1], [30, 0, -1, 1, 9, 1, 0, 0]), (101, [2, 14], [6]), (1, [14, 3, 13], []), (9, [3, 2], [6]), (10, [10, 5, 3], []), (9, [5, 2], [0]), (7, [3, 4], [2]), (9, [4, 2], [5]), (20, [2, 1], [30, 0, 1, 1, 9, -1, 0, 0]), (20, [2, 1], [30, 0, -1, 1, 9, 1, 0, 0]), (101, [2, 3], [8]), (7, [8, 9], [1]), (10, [8, 5, 3], []), (7, [6, 7], [1]), (10, [6, 5, 3], []), (7, [3, 4], [2]), (20, [2, 1], [30, 0, 1, 1, 9, -1, 0, 0]), (20, [2, 1], [30, 0, -1, 1, 9, 1, 0, 0])], [], [], [(20, [0, 0, 1], [31, 1, 3, 1, 1, 7, 0, 1, 1, 9, -1, 0, 0]), (20, [0, 0, 1], [31, 1, 3, 1, 1, 7, 0, -1, 1, 9, 1, 0, 0]), (20, [0, 0, 0, 0], [31, 1, -3, -1, 1, 7, 4008, 1, 1, 6, -1, 1, 8, 2000, 1, 7]), (20, [0, 0], [30, 0, 1, 1, 8, -1, 1, 6])], [], [(14, 3, 1, 1), (14, 4, -4294967296, 0), (3, 4, -4294967296, -1)])
theorem oo_Re_advance_13 {kA : Nat → ClassId} : or_ok PRD kA GG o_Re_advance_13 := by
  refine or_mk fun A ta ws vs hD hth hl => ?_
  intro t0 r0 t1 k1 t2 r2 t3 k3 t4 k4 t5 r5 t6 k6 t7 k7 t8 k8 t9 k9 t10 k10 t13 k13 t14 k14 d0 d1 d2 f0 f1 f2 ta1 w1 le1 s1 f4 f5 ta2 w2 le2 s2 f7 f8 f9 f10 f11 f12 f13 f14 ta3 w3 le3 s3 f16 f17 f18 f19 f20 f21 f22
  replace f0 := shm_199 f0
  replace f1 := shm_200 f1
  replace f2 := shm_5 f2
  have s1 : (∀ b j, w_el ws b j = w_el w1 b j) ∧ ∀ b j, w_fd ws b j = if b = v_ad (n_v vs 2) ∧ j = 7 then n_v vs 10 else w_fd w1 b j := s1.2
  replace f4 := shm_199 f4
  replace f5 := shm_200 f5
  have s2 : (∀ b j, w_el w1 b j = w_el w2 b j) ∧ ∀ b j, w_fd w1 b j = if b = v_ad (n_v vs 2) ∧ j = 6 then n_v vs 14 else w_fd w2 b j := s2.2
  replace f7 := shm_12 f7
  replace f8 := shm_110 f8
  replace f9 := shm_106 f9
  replace f10 := shm_175 f10
  replace f11 := shm_6 f11
  replace f12 := shm_109 f12
  replace f13 := shm_199 f13
  replace f14 := shm_200 f14
  have s3 : (∀ b j, w_el w2 b j = w_el w3 b j) ∧ ∀ b j, w_fd w2 b j = if b = v_ad (n_v vs 2) ∧ j = 8 then n_v vs 3 else w_fd w3 b j := s3.2
  replace f16 := shm_40 f16
  replace f17 := shm_106 f17
  replace f18 := shm_40 f18
  replace f19 := shm_106 f19
  replace f20 := shm_6 f20
  replace f21 := shm_199 f21
  replace f22 := shm_200 f22
  have q2 : n_v vs 2 = n_v vs 0 := f2.symm
  simp only [q2] at f0 f1
  rw [q2] at s1
  simp only [q2] at f4 f5
  rw [q2] at s2
  simp only [q2] at f8 f10 f12 f13 f14
  rw [q2] at s3
  simp only [q2] at f21 f22
  have ar_0_0_1 : w_ar w1 (n_v vs 0) 0 = w_ar ws (n_v vs 0) 0 := by show v_ad (w_fd w1 _ _) = v_ad (w_fd ws _ _); rw [s1.2, if_neg (fun e => absurd e.2 (by decide))]
  have ar_0_0_2 : w_ar w2 (n_v vs 0) 0 = w_ar ws (n_v vs 0) 0 := by rw [← ar_0_0_1]; show v_ad (w_fd w2 _ _) = v_ad (w_fd w1 _ _); rw [s2.2, if_neg (fun e => absurd e.2 (by decide))]
  have ar_0_0_3 : w_ar w3 (n_v vs 0) 0 = w_ar ws (n_v vs 0) 0 := by rw [← ar_0_0_2]; show v_ad (w_fd w3 _ _) = v_ad (w_fd w2 _ _); rw [s3.2, if_neg (fun e => absurd e.2 (by decide))]
  have cr_0_0 := fdq_32 hD hth r0
  have ad_5 : v_ad (n_v vs 5) = w_ar ws (n_v vs 0) 0 := (congrArg v_ad f10).trans ar_0_0_2
  have g8 : v_iv (n_v vs 3) = w_fi w2 (n_v vs 0) 6 := congrArg v_iv f8
  simp only [ad_5] at f9
  have h9 : v_iv (n_v vs 10) = w_ei w2 (w_ar ws (n_v vs 0) 0) (v_iv (n_v vs 3)) := f9
  have g12 : v_iv (n_v vs 4) = w_fi w2 (n_v vs 0) 5 := congrArg v_iv f12
  simp only [ad_5] at f17
  have h17 : v_iv (n_v vs 8) = w_ei w3 (w_ar ws (n_v vs 0) 0) (v_iv (n_v vs 3)) := f17
  simp only [ad_5] at f19
  have h19 : v_iv (n_v vs 6) = w_ei w3 (w_ar ws (n_v vs 0) 0) (v_iv (n_v vs 3)) := f19
  have fe_0_5_1 : w_fi ws (n_v vs 0) 5 = w_fi w1 (n_v vs 0) 5 := by show v_iv (w_fd _ _ _) = v_iv (w_fd _ _ _); rw [s1.2, if_neg (fun e => absurd e.2 (by decide))]
  have fe_0_6_1 : w_fi ws (n_v vs 0) 6 = w_fi w1 (n_v vs 0) 6 := by show v_iv (w_fd _ _ _) = v_iv (w_fd _ _ _); rw [s1.2, if_neg (fun e => absurd e.2 (by decide))]
  have fe_0_7_1 : w_fi ws (n_v vs 0) 7 = v_iv (n_v vs 10) := by show v_iv (w_fd _ _ _) = _; rw [s1.2, if_pos ⟨rfl, rfl⟩]
  have fe_0_8_1 : w_fi ws (n_v vs 0) 8 = w_fi w1 (n_v vs 0) 8 := by show v_iv (w_fd _ _ _) = v_iv (w_fd _ _ _); rw [s1.2, if_neg (fun e => absurd e.2 (by decide))]
  have fe_0_9_1 : w_fi ws (n_v vs 0) 9 = w_fi w1 (n_v vs 0) 9 := by show v_iv (w_fd _ _ _) = v_iv (w_fd _ _ _); rw [s1.2, if_neg (fun e => absurd e.2 (by decide))]
  have ee_0_0_3_1 : w_el ws (w_ar ws (n_v vs 0) 0) (v_iv (n_v vs 3)).toNat = w_el w1 (w_ar ws (n_v vs 0) 0) (v_iv (n_v vs 3)).toNat := s1.1 _ _
  have fe_0_5_2 : w_fi w1 (n_v vs 0) 5 = w_fi w2 (n_v vs 0) 5 := by show v_iv (w_fd _ _ _) = v_iv (w_fd _ _ _); rw [s2.2, if_neg (fun e => absurd e.2 (by decide))]
  have fe_0_6_2 : w_fi w1 (n_v vs 0) 6 = v_iv (n_v vs 14) := by show v_iv (w_fd _ _ _) = _; rw [s2.2, if_pos ⟨rfl, rfl⟩]
  have fe_0_7_2 : w_fi w1 (n_v vs 0) 7 = w_fi w2 (n_v vs 0) 7 := by show v_iv (w_fd _ _ _) = v_iv (w_fd _ _ _); rw [s2.2, if_neg (fun e => absurd e.2 (by decide))]
  have fe_0_8_2 : w_fi w1 (n_v vs 0) 8 = w_fi w2 (n_v vs 0) 8 := by show v_iv (w_fd _ _ _) = v_iv (w_fd _ _ _); rw [s2.2, if_neg (fun e => absurd e.2 (by decide))]
  have fe_0_9_2 : w_fi w1 (n_v vs 0) 9 = w_fi w2 (n_v vs 0) 9 := by show v_iv (w_fd _ _ _) = v_iv (w_fd _ _ _); rw [s2.2, if_neg (fun e => absurd e.2 (by decide))]
  have ee_0_0_3_2 : w_el w1 (w_ar ws (n_v vs 0) 0) (v_iv (n_v vs 3)).toNat = w_el w2 (w_ar ws (n_v vs 0) 0) (v_iv (n_v vs 3)).toNat := s2.1 _ _
  have fe_0_5_3 : w_fi w2 (n_v vs 0) 5 = w_fi w3 (n_v vs 0) 5 := by show v_iv (w_fd _ _ _) = v_iv (w_fd _ _ _); rw [s3.2, if_neg (fun e => absurd e.2 (by decide))]
  have fe_0_6_3 : w_fi w2 (n_v vs 0) 6 = w_fi w3 (n_v vs 0) 6 := by show v_iv (w_fd _ _ _) = v_iv (w_fd _ _ _); rw [s3.2, if_neg (fun e => absurd e.2 (by decide))]
  have fe_0_7_3 : w_fi w2 (n_v vs 0) 7 = w_fi w3 (n_v vs 0) 7 := by show v_iv (w_fd _ _ _) = v_iv (w_fd _ _ _); rw [s3.2, if_neg (fun e => absurd e.2 (by decide))]
  have fe_0_8_3 : w_fi w2 (n_v vs 0) 8 = v_iv (n_v vs 3) := by show v_iv (w_fd _ _ _) = _; rw [s3.2, if_pos ⟨rfl, rfl⟩]
  have fe_0_9_3 : w_fi w2 (n_v vs 0) 9 = w_fi w3 (n_v vs 0) 9 := by show v_iv (w_fd _ _ _) = v_iv (w_fd _ _ _); rw [s3.2, if_neg (fun e => absurd e.2 (by decide))]
  have ee_0_0_3_3 : w_el w2 (w_ar ws (n_v vs 0) 0) (v_iv (n_v vs 3)).toNat = w_el w3 (w_ar ws (n_v vs 0) 0) (v_iv (n_v vs 3)).toNat := s3.1 _ _
  have kz_0_5 := fdq_28 hD hth r0
  have kz_0_6 := fdq_29 hD hth r0
  have kz_0_7 := fdq_30 hD hth r0
  have kz_0_8 := fdq_31 hD hth r0
  have kz_0_9 := fdq_27 hD hth r0
  have nf0 : fc_1 PRD (20, [0, 0, 1], [31, 1, 3, 1, 1, 7, 0, 1, 1, 9, -1, 0, 0]) ws (vs) := by
    refine ⟨nf_in hl rfl, sgq_201 ?_⟩
    · show (1 * w_fi ws (n_v vs 0) 7 + 0 ≤ 3) ∨ (1 * w_fi ws (n_v vs 0) 9 + ((-1) * v_iv (n_v vs 1) + 0) ≤ 0)
      omega
  have nf1 : fc_1 PRD (20, [0, 0, 1], [31, 1, 3, 1, 1, 7, 0, -1, 1, 9, 1, 0, 0]) ws (vs) := by
    refine ⟨nf_in hl rfl, sgq_202 ?_⟩
    · show (1 * w_fi ws (n_v vs 0) 7 + 0 ≤ 3) ∨ ((-1) * w_fi ws (n_v vs 0) 9 + (1 * v_iv (n_v vs 1) + 0) ≤ 0)
      omega
  have nf2 : fc_1 PRD (20, [0, 0, 0, 0], [31, 1, -3, -1, 1, 7, 4008, 1, 1, 6, -1, 1, 8, 2000, 1, 7]) ws (vs) := by
    refine ⟨nf_in hl rfl, sgq_203 ?_⟩
    · show ((-1) * w_fi ws (n_v vs 0) 7 + 0 ≤ (-3)) ∨ (1 * w_fi ws (n_v vs 0) 6 + ((-1) * w_fi ws (n_v vs 0) 8 + (2000 * w_fi ws (n_v vs 0) 7 + 0)) ≤ 4008)
      omega
  have nf3 : fc_1 PRD (20, [0, 0], [30, 0, 1, 1, 8, -1, 1, 6]) ws (vs) := by
    refine ⟨nf_in hl rfl, sgq_204 ?_⟩
    · show 1 * w_fi ws (n_v vs 0) 8 + ((-1) * w_fi ws (n_v vs 0) 6 + 0) ≤ 0
      omega
  refine ⟨(fun _ h => (by cases h)), [], trivial, ?_, (fun _ h => (by cases h))⟩
  rw [List.append_nil]
  exact List.forall_mem_cons.mpr ⟨⟨show (20 : Nat) < 100 from by decide, nf0⟩, List.forall_mem_cons.mpr ⟨⟨show (20 : Nat) < 100 from by decide, nf1⟩, List.forall_mem_cons.mpr ⟨⟨show (20 : Nat) < 100 from by decide, nf2⟩, List.forall_mem_cons.mpr ⟨⟨show (20 : Nat) < 100 from by decide, nf3⟩, (fun _ h => (by cases h))⟩⟩⟩⟩
set_option maxHeartbeats 4000000 in
theorem vc_Re_advance_14_0 (x3 : Int) (next_0 : Int) (number_0 : Int) (number_1 : Int) (begin_0 : Int) (k3 : 0 ≤ x3 ∧ x3 ≤ 1999) (g0 : x3 = next_0) (fe_0_8_1 : begin_0 = x3) (fe_0_9_1 : number_0 = number_1) (kz_0_6 : 0 ≤ next_0 ∧ next_0 ≤ 2000) (kz_0_8 : 0 ≤ begin_0 ∧ begin_0 ≤ 2000) (kz_0_9 : (-2147483648) ≤ number_0 ∧ number_0 ≤ 1000000) : 1 * begin_0 + ((-1) * next_0 + 0) ≤ 0 := by
  subst fe_0_9_1
  first | assumption | omega | grind
def o_Re_advance_14 : or_T := (94, 12, [(0, (2, 0, 0, [8])), (3, (0, 0, 1999, []))], [(9, [3, 2], [6]), (24, [0, 2], []), (101, [2, 3], [8])], [], [], [(20, [2, 2], [30, 0, 1, 1, 8, -1, 1, 6])], [], [])
theorem oo_Re_advance_14 {kA : Nat → ClassId} : or_ok PRD kA GG o_Re_advance_14 := by
  refine or_mk fun A ta ws vs hD hth hl => ?_
  intro t0 r0 t3 k3 f0 f5 ta1 w1 le1 s1
  replace f0 := shm_110 f0
  replace f5 := shm_5 f5
  have s1 : (∀ b j, w_el ws b j = w_el w1 b j) ∧ ∀ b j, w_fd ws b j = if b = v_ad (n_v vs 2) ∧ j = 8 then n_v vs 3 else w_fd w1 b j := s1.2
  have q2 : n_v vs 2 = n_v vs 0 := f5.symm
  simp only [q2] at f0
  rw [q2] at s1
  have g0 : v_iv (n_v vs 3) = w_fi ws (n_v vs 0) 6 := congrArg v_iv f0
  have fe_0_8_1 : w_fi ws (n_v vs 0) 8 = v_iv (n_v vs 3) := by show v_iv (w_fd _ _ _) = _; rw [s1.2, if_pos ⟨rfl, rfl⟩]
  have fe_0_9_1 : w_fi ws (n_v vs 0) 9 = w_fi w1 (n_v vs 0) 9 := by show v_iv (w_fd _ _ _) = v_iv (w_fd _ _ _); rw [s1.2, if_neg (fun e => absurd e.2 (by decide))]
  have kz_0_6 := fdq_29 hD hth r0
  have kz_0_8 := fdq_31 hD hth r0
  have kz_0_9 := fdq_27 hD hth r0
  have nf0 : fc_1 PRD (20, [2, 2], [30, 0, 1, 1, 8, -1, 1, 6]) ws (vs) := by
    refine ⟨nf_in hl rfl, sgq_204 ?_⟩
    · show 1 * w_fi ws (n_v vs 2) 8 + ((-1) * w_fi ws (n_v vs 2) 6 + 0) ≤ 0
      rw [q2]
      exact vc_Re_advance_14_0 (v_iv (n_v vs 3)) (w_fi ws (n_v vs 0) 6) (w_fi ws (n_v vs 0) 9) (w_fi w1 (n_v vs 0) 9) (w_fi ws (n_v vs 0) 8) k3 g0 fe_0_8_1 fe_0_9_1 kz_0_6 kz_0_8 kz_0_9
  refine ⟨(fun _ h => (by cases h)), [], trivial, ?_, (fun _ h => (by cases h))⟩
  rw [List.append_nil]
  exact List.forall_mem_cons.mpr ⟨⟨show (20 : Nat) < 100 from by decide, nf0⟩, (fun _ h => (by cases h))⟩
def o_Re_advance_15 : or_T := (290, 16, [(0, (2, 0, 0, [8])), (1, (0, -2147483648, 1000000, [])), (2, (2, 0, 0, [8])), (3, (0, 0, 1999, [])), (4, (0, 1, 2000, [])), (5, (2, 0, 0, [109])), (6, (0, -128, 127, [])), (7, (0, 32, 32, [])), (8, (0, -128, 127, [])), (9, (0, 10, 10, [])), (10, (0, 123, 127, [])), (13, (0, 1, 1, [])), (14, (0, 1, 2000, []))], [(20, [2, 1], [30, 0, 1, 1, 9, -1, 0, 0]), (20, [2, 1], [30, 0, -1, 1, 9, 1, 0, 0]), (24, [0, 2], []), (101, [2, 10], [7]), (20, [2, 1], [30, 0, 1, 1, 9, -1, 0, 0]), (20, [2, 1], [30, 0, -1, 1, 9, 1, 0, 0]), (101, [2, 14], [6]), (1, [14, 3, 13], []), (9, [3, 2], [6]), (10, [10, 5, 3], []), (9, [5, 2], [0]), (7, [3, 4], [2]), (9, [4, 2], [5]), (20, [2, 1], [30, 0, 1, 1, 9, -1, 0, 0]), (20, [2, 1], [30, 0, -1, 1, 9, 1, 0, 0]), (101, [2, 3], [8]), (7, [8, 9], [1]), (10, [8, 5, 3], []), (7, [6, 7], [1]), (10, [6, 5, 3], []), (7, [3, 4], [2]), (20, [2, 1], [30, 0, 1, 1, 9, -1, 0, 0]), (20, [2, 1], [30, 0, -1, 1, 9, 1, 0, 0])], [], [], [(20, [0, 0, 1], [31, 1, 3, 1, 1, 7, 0, 1, 1, 9, -1, 0, 0]), (20, [0, 0, 1], [31, 1, 3, 1, 1, 7, 0, -1, 1, 9, 1, 0, 0]), (20, [0, 0, 0, 0], [31, 1, -3, -1, 1, 7, 4008, 1, 1, 6, -1, 1, 8, 2000, 1, 7]), (20, [0, 0], [30, 0, 1, 1, 8, -1, 1, 6])], [], [(14, 3, 1, 1), (14, 4, -4294967296, 0), (3, 4, -4294967296, -1)])
theorem oo_Re_advance_15 {kA : Nat → ClassId} : or_ok PRD kA GG o_Re_advance_15 := by
  refine or_mk fun A ta ws vs hD hth hl => ?_
  intro t0 r0 t1 k1 t2 r2 t3 k3 t4 k4 t5 r5 t6 k6 t7 k7 t8 k8 t9 k9 t10 k10 t13 k13 t14 k14 d0 d1 d2 f0 f1 f2 ta1 w1 le1 s1 f4 f5 ta2 w2 le2 s2 f7 f8 f9 f10 f11 f12 f13 f14 ta3 w3 le3 s3 f16 f17 f18 f19 f20 f21 f22
  replace f0 := shm_199 f0
  replace f1 := shm_200 f1
  replace f2 := shm_5 f2
  have s1 : (∀ b j, w_el ws b j = w_el w1 b j) ∧ ∀ b j, w_fd ws b j = if b = v_ad (n_v vs 2) ∧ j = 7 then n_v vs 10 else w_fd w1 b j := s1.2
  replace f4 := shm_199 f4
  replace f5 := shm_200 f5
  have s2 : (∀ b j, w_el w1 b j = w_el w2 b j) ∧ ∀ b j, w_fd w1 b j = if b = v_ad (n_v vs 2) ∧ j = 6 then n_v vs 14 else w_fd w2 b j := s2.2
  replace f7 := shm_12 f7
  replace f8 := shm_110 f8
  replace f9 := shm_106 f9
  replace f10 := shm_175 f10
  replace f11 := shm_6 f11
  replace f12 := shm_109 f12
  replace f13 := shm_199 f13
  replace f14 := shm_200 f14
  have s3 : (∀ b j, w_el w2 b j = w_el w3 b j) ∧ ∀ b j, w_fd w2 b j = if b = v_ad (n_v vs 2) ∧ j = 8 then n_v vs 3 else w_fd w3 b j := s3.2
  replace f16 := shm_40 f16
  replace f17 := shm_106 f17
  replace f18 := shm_40 f18
  replace f19 := shm_106 f19
  replace f20 := shm_6 f20
  replace f21 := shm_199 f21
  replace f22 := shm_200 f22
  have q2 : n_v vs 2 = n_v vs 0 := f2.symm
  simp only [q2] at f0 f1
  rw [q2] at s1
  simp only [q2] at f4 f5
  rw [q2] at s2
  simp only [q2] at f8 f10 f12 f13 f14
  rw [q2] at s3
  simp only [q2] at f21 f22
  have ar_0_0_1 : w_ar w1 (n_v vs 0) 0 = w_ar ws (n_v vs 0) 0 := by show v_ad (w_fd w1 _ _) = v_ad (w_fd ws _ _); rw [s1.2, if_neg (fun e => absurd e.2 (by decide))]
  have ar_0_0_2 : w_ar w2 (n_v vs 0) 0 = w_ar ws (n_v vs 0) 0 := by rw [← ar_0_0_1]; show v_ad (w_fd w2 _ _) = v_ad (w_fd w1 _ _); rw [s2.2, if_neg (fun e => absurd e.2 (by decide))]
  have ar_0_0_3 : w_ar w3 (n_v vs 0) 0 = w_ar ws (n_v vs 0) 0 := by rw [← ar_0_0_2]; show v_ad (w_fd w3 _ _) = v_ad (w_fd w2 _ _); rw [s3.2, if_neg (fun e => absurd e.2 (by decide))]
  have cr_0_0 := fdq_32 hD hth r0
  have ad_5 : v_ad (n_v vs 5) = w_ar ws (n_v vs 0) 0 := (congrArg v_ad f10).trans ar_0_0_2
  have g8 : v_iv (n_v vs 3) = w_fi w2 (n_v vs 0) 6 := congrArg v_iv f8
  simp only [ad_5] at f9
  have h9 : v_iv (n_v vs 10) = w_ei w2 (w_ar ws (n_v vs 0) 0) (v_iv (n_v vs 3)) := f9
  have g12 : v_iv (n_v vs 4) = w_fi w2 (n_v vs 0) 5 := congrArg v_iv f12
  simp only [ad_5] at f17
  have h17 : v_iv (n_v vs 8) = w_ei w3 (w_ar ws (n_v vs 0) 0) (v_iv (n_v vs 3)) := f17
  simp only [ad_5] at f19
  have h19 : v_iv (n_v vs 6) = w_ei w3 (w_ar ws (n_v vs 0) 0) (v_iv (n_v vs 3)) := f19
  have fe_0_5_1 : w_fi ws (n_v vs 0) 5 = w_fi w1 (n_v vs 0) 5 := by show v_iv (w_fd _ _ _) = v_iv (w_fd _ _ _); rw [s1.2, if_neg (fun e => absurd e.2 (by decide))]
  have fe_0_6_1 : w_fi ws (n_v vs 0) 6 = w_fi w1 (n_v vs 0) 6 := by show v_iv (w_fd _ _ _) = v_iv (w_fd _ _ _); rw [s1.2, if_neg (fun e => absurd e.2 (by decide))]
  have fe_0_7_1 : w_fi ws (n_v vs 0) 7 = v_iv (n_v vs 10) := by show v_iv (w_fd _ _ _) = _; rw [s1.2, if_pos ⟨rfl, rfl⟩]
  have fe_0_8_1 : w_fi ws (n_v vs 0) 8 = w_fi w1 (n_v vs 0) 8 := by show v_iv (w_fd _ _ _) = v_iv (w_fd _ _ _); rw [s1.2, if_neg (fun e => absurd e.2 (by decide))]
  have fe_0_9_1 : w_fi ws (n_v vs 0) 9 = w_fi w1 (n_v vs 0) 9 := by show v_iv (w_fd _ _ _) = v_iv (w_fd _ _ _); rw [s1.2, if_neg (fun e => absurd e.2 (by decide))]
  have ee_0_0_3_1 : w_el ws (w_ar ws (n_v vs 0) 0) (v_iv (n_v vs 3)).toNat = w_el w1 (w_ar ws (n_v vs 0) 0) (v_iv (n_v vs 3)).toNat := s1.1 _ _
  have fe_0_5_2 : w_fi w1 (n_v vs 0) 5 = w_fi w2 (n_v vs 0) 5 := by show v_iv (w_fd _ _ _) = v_iv (w_fd _ _ _); rw [s2.2, if_neg (fun e => absurd e.2 (by decide))]
  have fe_0_6_2 : w_fi w1 (n_v vs 0) 6 = v_iv (n_v vs 14) := by show v_iv (w_fd _ _ _) = _; rw [s2.2, if_pos ⟨rfl, rfl⟩]
  have fe_0_7_2 : w_fi w1 (n_v vs 0) 7 = w_fi w2 (n_v vs 0) 7 := by show v_iv (w_fd _ _ _) = v_iv (w_fd _ _ _); rw [s2.2, if_neg (fun e => absurd e.2 (by decide))]
  have fe_0_8_2 : w_fi w1 (n_v vs 0) 8 = w_fi w2 (n_v vs 0) 8 := by show v_iv (w_fd _ _ _) = v_iv (w_fd _ _ _); rw [s2.2, if_neg (fun e => absurd e.2 (by decide))]
  have fe_0_9_2 : w_fi w1 (n_v vs 0) 9 = w_fi w2 (n_v vs 0) 9 := by show v_iv (w_fd _ _ _) = v_iv (w_fd _ _ _); rw [s2.2, if_neg (fun e => absurd e.2 (by decide))]
  have ee_0_0_3_2 : w_el w1 (w_ar ws (n_v vs 0) 0) (v_iv (n_v vs 3)).toNat = w_el w2 (w_ar ws (n_v vs 0) 0) (v_iv (n_v vs 3)).toNat := s2.1 _ _
  have fe_0_5_3 : w_fi w2 (n_v vs 0) 5 = w_fi w3 (n_v vs 0) 5 := by show v_iv (w_fd _ _ _) = v_iv (w_fd _ _ _); rw [s3.2, if_neg (fun e => absurd e.2 (by decide))]
  have fe_0_6_3 : w_fi w2 (n_v vs 0) 6 = w_fi w3 (n_v vs 0) 6 := by show v_iv (w_fd _ _ _) = v_iv (w_fd _ _ _); rw [s3.2, if_neg (fun e => absurd e.2 (by decide))]
  have fe_0_7_3 : w_fi w2 (n_v vs 0) 7 = w_fi w3 (n_v vs 0) 7 := by show v_iv (w_fd _ _ _) = v_iv (w_fd _ _ _); rw [s3.2, if_neg (fun e => absurd e.2 (by decide))]
  have fe_0_8_3 : w_fi w2 (n_v vs 0) 8 = v_iv (n_v vs 3) := by show v_iv (w_fd _ _ _) = _; rw [s3.2, if_pos ⟨rfl, rfl⟩]
  have fe_0_9_3 : w_fi w2 (n_v vs 0) 9 = w_fi w3 (n_v vs 0) 9 := by show v_iv (w_fd _ _ _) = v_iv (w_fd _ _ _); rw [s3.2, if_neg (fun e => absurd e.2 (by decide))]
  have ee_0_0_3_3 : w_el w2 (w_ar ws (n_v vs 0) 0) (v_iv (n_v vs 3)).toNat = w_el w3 (w_ar ws (n_v vs 0) 0) (v_iv (n_v vs 3)).toNat := s3.1 _ _
  have kz_0_5 := fdq_28 hD hth r0
  have kz_0_6 := fdq_29 hD hth r0
  have kz_0_7 := fdq_30 hD hth r0
  have kz_0_8 := fdq_31 hD hth r0
  have kz_0_9 := fdq_27 hD hth r0
  have nf0 : fc_1 PRD (20, [0, 0, 1], [31, 1, 3, 1, 1, 7, 0, 1, 1, 9, -1, 0, 0]) ws (vs) := by
    refine ⟨nf_in hl rfl, sgq_201 ?_⟩
    · show (1 * w_fi ws (n_v vs 0) 7 + 0 ≤ 3) ∨ (1 * w_fi ws (n_v vs 0) 9 + ((-1) * v_iv (n_v vs 1) + 0) ≤ 0)
      omega
  have nf1 : fc_1 PRD (20, [0, 0, 1], [31, 1, 3, 1, 1, 7, 0, -1, 1, 9, 1, 0, 0]) ws (vs) := by
    refine ⟨nf_in hl rfl, sgq_202 ?_⟩
    · show (1 * w_fi ws (n_v vs 0) 7 + 0 ≤ 3) ∨ ((-1) * w_fi ws (n_v vs 0) 9 + (1 * v_iv (n_v vs 1) + 0) ≤ 0)
      omega
  have nf2 : fc_1 PRD (20, [0, 0, 0, 0], [31, 1, -3, -1, 1, 7, 4008, 1, 1, 6, -1, 1, 8, 2000, 1, 7]) ws (vs) := by
    refine ⟨nf_in hl rfl, sgq_203 ?_⟩
    · show ((-1) * w_fi ws (n_v vs 0) 7 + 0 ≤ (-3)) ∨ (1 * w_fi ws (n_v vs 0) 6 + ((-1) * w_fi ws (n_v vs 0) 8 + (2000 * w_fi ws (n_v vs 0) 7 + 0)) ≤ 4008)
      omega
  have nf3 : fc_1 PRD (20, [0, 0], [30, 0, 1, 1, 8, -1, 1, 6]) ws (vs) := by
    refine ⟨nf_in hl rfl, sgq_204 ?_⟩
    · show 1 * w_fi ws (n_v vs 0) 8 + ((-1) * w_fi ws (n_v vs 0) 6 + 0) ≤ 0
      omega
  refine ⟨(fun _ h => (by cases h)), [], trivial, ?_, (fun _ h => (by cases h))⟩
  rw [List.append_nil]
  exact List.forall_mem_cons.mpr ⟨⟨show (20 : Nat) < 100 from by decide, nf0⟩, List.forall_mem_cons.mpr ⟨⟨show (20 : Nat) < 100 from by decide, nf1⟩, List.forall_mem_cons.mpr ⟨⟨show (20 : Nat) < 100 from by decide, nf2⟩, List.forall_mem_cons.mpr ⟨⟨show (20 : Nat) < 100 from by decide, nf3⟩, (fun _ h => (by cases h))⟩⟩⟩⟩
set_option maxHeartbeats 4000000 in
theorem vc_Re_advance_16_0 (x1 : Int) (x3 : Int) (x4 : Int) (number_0 : Int) (end_1 : Int) (next_1 : Int) (number_1 : Int) (number_2 : Int) (end_0 : Int) (next_0 : Int) (kind_0 : Int) (begin_0 : Int) (begin_1 : Int) (k1 : (-2147483648) ≤ x1 ∧ x1 ≤ 1000000) (k3 : 1 ≤ x3 ∧ x3 ≤ 1998) (k4 : 2 ≤ x4 ∧ x4 ≤ 1999) (d0 : x4 + 0 ≤ x3 ∧ x3 ≤ x4 + 4294967296) (d1 : x4 + (-4294967296) ≤ x3 ∧ x3 ≤ x4 + (-1)) (fe_0_5_1 : end_0 = end_1) (fe_0_6_1 : next_0 = next_1) (fe_0_8_1 : begin_0 = begin_1) (fe_0_9_1 : number_0 = number_1) (fe_0_9_2 : number_1 = number_2) (kz_0_5 : 0 ≤ end_0 ∧ end_0 ≤ 2000) (kz_0_6 : 0 ≤ next_0 ∧ next_0 ≤ 2000) (kz_0_7 : (-128) ≤ kind_0 ∧ kind_0 ≤ 127) (kz_0_8 : 0 ≤ begin_0 ∧ begin_0 ≤ 2000) (kz_0_9 : (-2147483648) ≤ number_0 ∧ number_0 ≤ 1000000) : (1 * kind_0 + 0 ≤ 3) ∨ (1 * number_0 + ((-1) * x1 + 0) ≤ 0) := by
  subst fe_0_5_1
  subst fe_0_6_1
  subst fe_0_8_1
  subst fe_0_9_1
  subst fe_0_9_2
  first | assumption | omega | grind
set_option maxHeartbeats 4000000 in
theorem vc_Re_advance_16_1 (x1 : Int) (x3 : Int) (x4 : Int) (number_0 : Int) (end_1 : Int) (next_1 : Int) (number_1 : Int) (number_2 : Int) (end_0 : Int) (next_0 : Int) (kind_0 : Int) (begin_0 : Int) (begin_1 : Int) (k1 : (-2147483648) ≤ x1 ∧ x1 ≤ 1000000) (k3 : 1 ≤ x3 ∧ x3 ≤ 1998) (k4 : 2 ≤ x4 ∧ x4 ≤ 1999) (d0 : x4 + 0 ≤ x3 ∧ x3 ≤ x4 + 4294967296) (d1 : x4 + (-4294967296) ≤ x3 ∧ x3 ≤ x4 + (-1)) (fe_0_5_1 : end_0 = end_1) (fe_0_6_1 : next_0 = next_1) (fe_0_8_1 : begin_0 = begin_1) (fe_0_9_1 : number_0 = number_1) (fe_0_9_2 : number_1 = number_2) (kz_0_5 : 0 ≤ end_0 ∧ end_0 ≤ 2000) (kz_0_6 : 0 ≤ next_0 ∧ next_0 ≤ 2000) (kz_0_7 : (-128) ≤ kind_0 ∧ kind_0 ≤ 127) (kz_0_8 : 0 ≤ begin_0 ∧ begin_0 ≤ 2000) (kz_0_9 : (-2147483648) ≤ number_0 ∧ number_0 ≤ 1000000) : (1 * kind_0 + 0 ≤ 3) ∨ ((-1) * number_0 + (1 * x1 + 0) ≤ 0) := by
  subst fe_0_5_1
  subst fe_0_6_1
  subst fe_0_8_1
  subst fe_0_9_1
  subst fe_0_9_2
  first | assumption | omega | grind
set_option maxHeartbeats 4000000 in
theorem vc_Re_advance_16_2 (x3 : Int) (x4 : Int) (number_0 : Int) (end_1 : Int) (next_1 : Int) (number_1 : Int) (number_2 : Int) (end_0 : Int) (next_0 : Int) (kind_0 : Int) (begin_0 : Int) (begin_1 : Int) (k3 : 1 ≤ x3 ∧ x3 ≤ 1998) (k4 : 2 ≤ x4 ∧ x4 ≤ 1999) (d0 : x4 + 0 ≤ x3 ∧ x3 ≤ x4 + 4294967296) (d1 : x4 + (-4294967296) ≤ x3 ∧ x3 ≤ x4 + (-1)) (fe_0_5_1 : end_0 = end_1) (fe_0_6_1 : next_0 = next_1) (fe_0_8_1 : begin_0 = begin_1) (fe_0_9_1 : number_0 = number_1) (fe_0_9_2 : number_1 = number_2) (kz_0_5 : 0 ≤ end_0 ∧ end_0 ≤ 2000) (kz_0_6 : 0 ≤ next_0 ∧ next_0 ≤ 2000) (kz_0_7 : (-128) ≤ kind_0 ∧ kind_0 ≤ 127) (kz_0_8 : 0 ≤ begin_0 ∧ begin_0 ≤ 2000) (kz_0_9 : (-2147483648) ≤ number_0 ∧ number_0 ≤ 1000000) : ((-1) * kind_0 + 0 ≤ (-3)) ∨ (1 * next_0 + ((-1) * begin_0 + (2000 * kind_0 + 0)) ≤ 4008) := by
  subst fe_0_5_1
  subst fe_0_6_1
  subst fe_0_8_1
  subst fe_0_9_1
  subst fe_0_9_2
  first | assumption | omega | grind
set_option maxHeartbeats 4000000 in
theorem vc_Re_advance_16_3 (x3 : Int) (x4 : Int) (number_0 : Int) (end_1 : Int) (next_1 : Int) (number_1 : Int) (number_2 : Int) (end_0 : Int) (next_0 : Int) (begin_0 : Int) (begin_1 : Int) (k3 : 1 ≤ x3 ∧ x3 ≤ 1998) (k4 : 2 ≤ x4 ∧ x4 ≤ 1999) (d0 : x4 + 0 ≤ x3 ∧ x3 ≤ x4 + 4294967296) (d1 : x4 + (-4294967296) ≤ x3 ∧ x3 ≤ x4 + (-1)) (fe_0_5_1 : end_0 = end_1) (fe_0_6_1 : next_0 = next_1) (fe_0_8_1 : begin_0 = begin_1) (fe_0_9_1 : number_0 = number_1) (fe_0_9_2 : number_1 = number_2) (kz_0_5 : 0 ≤ end_0 ∧ end_0 ≤ 2000) (kz_0_6 : 0 ≤ next_0 ∧ next_0 ≤ 2000) (kz_0_8 : 0 ≤ begin_0 ∧ begin_0 ≤ 2000) (kz_0_9 : (-2147483648) ≤ number_0 ∧ number_0 ≤ 1000000) : 1 * begin_0 + ((-1) * next_0 + 0) ≤ 0 := by
  subst fe_0_5_1
  subst fe_0_6_1
  subst fe_0_8_1
  subst fe_0_9_1
  subst fe_0_9_2
  first | assumption | omega | grind
def o_Re_advance_16 : or_T := (76, 11, [(0, (2, 0, 0, [8])), (1, (0, -2147483648, 1000000, [])), (3, (0, 1, 1998, [])), (4, (0, 2, 1999, []))], [(24, [0, 2], []), (101, [2, 10], [7]), (101, [2, 3], [8])], [], [], [(20, [0, 0, 1], [31, 1, 3, 1, 1, 7, 0, 1, 1, 9, -1, 0, 0]), (20, [0, 0, 1], [31, 1, 3, 1, 1, 7, 0, -1, 1, 9, 1, 0, 0]), (20, [0, 0, 0, 0], [31, 1, -3, -1, 1, 7, 4008, 1, 1, 6, -1, 1, 8, 2000, 1, 7]), (20, [0, 0], [30, 0, 1, 1, 8, -1, 1, 6])], [], [(3, 4, 0, 4294967296), (3, 4, -4294967296, -1)])
theorem oo_Re_advance_16 {kA : Nat → ClassId} : or_ok PRD kA GG o_Re_advance_16 := by
  refine or_mk fun A ta ws vs hD hth hl => ?_
  intro t0 r0 t1 k1 t3 k3 t4 k4 d0 d1 f2 ta1 w1 le1 s1 ta2 w2 le2 s2
  replace f2 := shm_5 f2
  have s1 : (∀ b j, w_el ws b j = w_el w1 b j) ∧ ∀ b j, w_fd ws b j = if b = v_ad (n_v vs 2) ∧ j = 7 then n_v vs 10 else w_fd w1 b j := s1.2
  have s2 : (∀ b j, w_el w1 b j = w_el w2 b j) ∧ ∀ b j, w_fd w1 b j = if b = v_ad (n_v vs 2) ∧ j = 8 then n_v vs 3 else w_fd w2 b j := s2.2
  have q2 : n_v vs 2 = n_v vs 0 := f2.symm
  rw [q2] at s1
  rw [q2] at s2
  have fe_0_5_1 : w_fi ws (n_v vs 0) 5 = w_fi w1 (n_v vs 0) 5 := by show v_iv (w_fd _ _ _) = v_iv (w_fd _ _ _); rw [s1.2, if_neg (fun e => absurd e.2 (by decide))]
  have fe_0_6_1 : w_fi ws (n_v vs 0) 6 = w_fi w1 (n_v vs 0) 6 := by show v_iv (w_fd _ _ _) = v_iv (w_fd _ _ _); rw [s1.2, if_neg (fun e => absurd e.2 (by decide))]
  have fe_0_8_1 : w_fi ws (n_v vs 0) 8 = w_fi w1 (n_v vs 0) 8 := by show v_iv (w_fd _ _ _) = v_iv (w_fd _ _ _); rw [s1.2, if_neg (fun e => absurd e.2 (by decide))]
  have fe_0_9_1 : w_fi ws (n_v vs 0) 9 = w_fi w1 (n_v vs 0) 9 := by show v_iv (w_fd _ _ _) = v_iv (w_fd _ _ _); rw [s1.2, if_neg (fun e => absurd e.2 (by decide))]
  have fe_0_9_2 : w_fi w1 (n_v vs 0) 9 = w_fi w2 (n_v vs 0) 9 := by show v_iv (w_fd _ _ _) = v_iv (w_fd _ _ _); rw [s2.2, if_neg (fun e => absurd e.2 (by decide))]
  have kz_0_5 := fdq_28 hD hth r0
  have kz_0_6 := fdq_29 hD hth r0
  have kz_0_7 := fdq_30 hD hth r0
  have kz_0_8 := fdq_31 hD hth r0
  have kz_0_9 := fdq_27 hD hth r0
  have nf0 : fc_1 PRD (20, [0, 0, 1], [31, 1, 3, 1, 1, 7, 0, 1, 1, 9, -1, 0, 0]) ws (vs) := ⟨nf_in hl rfl, sgq_201 (vc_Re_advance_16_0 (v_iv (n_v vs 1)) (v_iv (n_v vs 3)) (v_iv (n_v vs 4)) (w_fi ws (n_v vs 0) 9) (w_fi w1 (n_v vs 0) 5) (w_fi w1 (n_v vs 0) 6) (w_fi w1 (n_v vs 0) 9) (w_fi w2 (n_v vs 0) 9) (w_fi ws (n_v vs 0) 5) (w_fi ws (n_v vs 0) 6) (w_fi ws (n_v vs 0) 7) (w_fi ws (n_v vs 0) 8) (w_fi w1 (n_v vs 0) 8) k1 k3 k4 d0 d1 fe_0_5_1 fe_0_6_1 fe_0_8_1 fe_0_9_1 fe_0_9_2 kz_0_5 kz_0_6 kz_0_7 kz_0_8 kz_0_9)⟩
  have nf1 : fc_1 PRD (20, [0, 0, 1], [31, 1, 3, 1, 1, 7, 0, -1, 1, 9, 1, 0, 0]) ws (vs) := ⟨nf_in hl rfl, sgq_202 (vc_Re_advance_16_1 (v_iv (n_v vs 1)) (v_iv (n_v vs 3)) (v_iv (n_v vs 4)) (w_fi ws (n_v vs 0) 9) (w_fi w1 (n_v vs 0) 5) (w_fi w1 (n_v vs 0) 6) (w_fi w1 (n_v vs 0) 9) (w_fi w2 (n_v vs 0) 9) (w_fi ws (n_v vs 0) 5) (w_fi ws (n_v vs 0) 6) (w_fi ws (n_v vs 0) 7) (w_fi ws (n_v vs 0) 8) (w_fi w1 (n_v vs 0) 8) k1 k3 k4 d0 d1 fe_0_5_1 fe_0_6_1 fe_0_8_1 fe_0_9_1 fe_0_9_2 kz_0_5 kz_0_6 kz_0_7 kz_0_8 kz_0_9)⟩
  have nf2 : fc_1 PRD (20, [0, 0, 0, 0], [31, 1, -3, -1, 1, 7, 4008, 1, 1, 6, -1, 1, 8, 2000, 1, 7]) ws (vs) := ⟨nf_in hl rfl, sgq_203 (vc_Re_advance_16_2 (v_iv (n_v vs 3)) (v_iv (n_v vs 4)) (w_fi ws (n_v vs 0) 9) (w_fi w1 (n_v vs 0) 5) (w_fi w1 (n_v vs 0) 6) (w_fi w1 (n_v vs 0) 9) (w_fi w2 (n_v vs 0) 9) (w_fi ws (n_v vs 0) 5) (w_fi ws (n_v vs 0) 6) (w_fi ws (n_v vs 0) 7) (w_fi ws (n_v vs 0) 8) (w_fi w1 (n_v vs 0) 8) k3 k4 d0 d1 fe_0_5_1 fe_0_6_1 fe_0_8_1 fe_0_9_1 fe_0_9_2 kz_0_5 kz_0_6 kz_0_7 kz_0_8 kz_0_9)⟩
  have nf3 : fc_1 PRD (20, [0, 0], [30, 0, 1, 1, 8, -1, 1, 6]) ws (vs) := ⟨nf_in hl rfl, sgq_204 (vc_Re_advance_16_3 (v_iv (n_v vs 3)) (v_iv (n_v vs 4)) (w_fi ws (n_v vs 0) 9) (w_fi w1 (n_v vs 0) 5) (w_fi w1 (n_v vs 0) 6) (w_fi w1 (n_v vs 0) 9) (w_fi w2 (n_v vs 0) 9) (w_fi ws (n_v vs 0) 5) (w_fi ws (n_v vs 0) 6) (w_fi ws (n_v vs 0) 8) (w_fi w1 (n_v vs 0) 8) k3 k4 d0 d1 fe_0_5_1 fe_0_6_1 fe_0_8_1 fe_0_9_1 fe_0_9_2 kz_0_5 kz_0_6 kz_0_8 kz_0_9)⟩
  refine ⟨(fun _ h => (by cases h)), [], trivial, ?_, (fun _ h => (by cases h))⟩
  rw [List.append_nil]
  exact List.forall_mem_cons.mpr ⟨⟨show (20 : Nat) < 100 from by decide, nf0⟩, List.forall_mem_cons.mpr ⟨⟨show (20 : Nat) < 100 from by decide, nf1⟩, List.forall_mem_cons.mpr ⟨⟨show (20 : Nat) < 100 from by decide, nf2⟩, List.forall_mem_cons.mpr ⟨⟨show (20 : Nat) < 100 from by decide, nf3⟩, (fun _ h => (by cases h))⟩⟩⟩⟩
set_option maxHeartbeats 4000000 in
theorem vc_Re_advance_17_0 (x1 : Int) (x9 : Int) (number_0 : Int) (begin_0 : Int) (next_0 : Int) (begin_1 : Int) (next_1 : Int) (end_1 : Int) (number_1 : Int) (end_0 : Int) (kind_0 : Int) (k1 : (-2147483648) ≤ x1 ∧ x1 ≤ 1000000) (k9 : 1 ≤ x9 ∧ x9 ≤ 1) (fe_0_5_1 : end_0 = end_1) (fe_0_6_1 : next_0 = next_1) (fe_0_7_1 : kind_0 = x9) (fe_0_8_1 : begin_0 = begin_1) (fe_0_9_1 : number_0 = number_1) (kz_0_5 : 0 ≤ end_0 ∧ end_0 ≤ 2000) (kz_0_6 : 0 ≤ next_0 ∧ next_0 ≤ 2000) (kz_0_7 : (-128) ≤ kind_0 ∧ kind_0 ≤ 127) (kz_0_8 : 0 ≤ begin_0 ∧ begin_0 ≤ 2000) (kz_0_9 : (-2147483648) ≤ number_0 ∧ number_0 ≤ 1000000) : (1 * kind_0 + 0 ≤ 3) ∨ (1 * number_0 + ((-1) * x1 + 0) ≤ 0) := by
  subst fe_0_5_1
  subst fe_0_6_1
  subst fe_0_8_1
  subst fe_0_9_1
  first | assumption | omega | grind
set_option maxHeartbeats 4000000 in
theorem vc_Re_advance_17_1 (x1 : Int) (x9 : Int) (number_0 : Int) (begin_0 : Int) (next_0 : Int) (begin_1 : Int) (next_1 : Int) (end_1 : Int) (number_1 : Int) (end_0 : Int) (kind_0 : Int) (k1 : (-2147483648) ≤ x1 ∧ x1 ≤ 1000000) (k9 : 1 ≤ x9 ∧ x9 ≤ 1) (fe_0_5_1 : end_0 = end_1) (fe_0_6_1 : next_0 = next_1) (fe_0_7_1 : kind_0 = x9) (fe_0_8_1 : begin_0 = begin_1) (fe_0_9_1 : number_0 = number_1) (kz_0_5 : 0 ≤ end_0 ∧ end_0 ≤ 2000) (kz_0_6 : 0 ≤ next_0 ∧ next_0 ≤ 2000) (kz_0_7 : (-128) ≤ kind_0 ∧ kind_0 ≤ 127) (kz_0_8 : 0 ≤ begin_0 ∧ begin_0 ≤ 2000) (kz_0_9 : (-2147483648) ≤ number_0 ∧ number_0 ≤ 1000000) : (1 * kind_0 + 0 ≤ 3) ∨ ((-1) * number_0 + (1 * x1 + 0) ≤ 0) := by
  subst fe_0_5_1
  subst fe_0_6_1
  subst fe_0_8_1
  subst fe_0_9_1
  first | assumption | omega | grind
set_option maxHeartbeats 4000000 in
theorem vc_Re_advance_17_2 (x4 : Int) (x6 : Int) (x7 : Int) (x9 : Int) (number_0 : Int) (begin_0 : Int) (next_0 : Int) (begin_1 : Int) (next_1 : Int) (end_1 : Int) (number_1 : Int) (end_0 : Int) (kind_0 : Int) (k4 : 9 ≤ x4 ∧ x4 ≤ 2000) (k6 : 0 ≤ x6 ∧ x6 ≤ 2000) (k7 : 9 ≤ x7 ∧ x7 ≤ 2000) (k9 : 1 ≤ x9 ∧ x9 ≤ 1) (f6 : x7 = x4 - x6) (g7 : x6 = begin_1) (g8 : x4 = next_1) (fe_0_5_1 : end_0 = end_1) (fe_0_6_1 : next_0 = next_1) (fe_0_7_1 : kind_0 = x9) (fe_0_8_1 : begin_0 = begin_1) (fe_0_9_1 : number_0 = number_1) (kz_0_5 : 0 ≤ end_0 ∧ end_0 ≤ 2000) (kz_0_6 : 0 ≤ next_0 ∧ next_0 ≤ 2000) (kz_0_7 : (-128) ≤ kind_0 ∧ kind_0 ≤ 127) (kz_0_8 : 0 ≤ begin_0 ∧ begin_0 ≤ 2000) (kz_0_9 : (-2147483648) ≤ number_0 ∧ number_0 ≤ 1000000) : ((-1) * kind_0 + 0 ≤ (-3)) ∨ (1 * next_0 + ((-1) * begin_0 + (2000 * kind_0 + 0)) ≤ 4008) := by
  subst fe_0_5_1
  subst fe_0_6_1
  subst fe_0_8_1
  subst fe_0_9_1
  first | assumption | omega | grind
set_option maxHeartbeats 4000000 in
theorem vc_Re_advance_17_3 (number_0 : Int) (begin_0 : Int) (next_0 : Int) (begin_1 : Int) (next_1 : Int) (end_1 : Int) (number_1 : Int) (end_0 : Int) (f13 : 1 * begin_1 + ((-1) * next_1 + 0) ≤ 0) (fe_0_5_1 : end_0 = end_1) (fe_0_6_1 : next_0 = next_1) (fe_0_8_1 : begin_0 = begin_1) (fe_0_9_1 : number_0 = number_1) (kz_0_5 : 0 ≤ end_0 ∧ end_0 ≤ 2000) (kz_0_6 : 0 ≤ next_0 ∧ next_0 ≤ 2000) (kz_0_8 : 0 ≤ begin_0 ∧ begin_0 ≤ 2000) (kz_0_9 : (-2147483648) ≤ number_0 ∧ number_0 ≤ 1000000) : 1 * begin_0 + ((-1) * next_0 + 0) ≤ 0 := by
  subst fe_0_5_1
  subst fe_0_6_1
  subst fe_0_8_1
  subst fe_0_9_1
  first | assumption | omega | grind
def o_Re_advance_17 : or_T := (290, 10, [(0, (2, 0, 0, [8])), (1, (0, -2147483648, 1000000, [])), (2, (2, 0, 0, [8])), (4, (0, 9, 2000, [])), (5, (0, 0, 2000, [])), (6, (0, 0, 2000, [])), (7, (0, 9, 2000, [])), (8, (0, 8, 8, [])), (9, (0, 1, 1, []))], [(20, [2, 1], [30, 0, 1, 1, 9, -1, 0, 0]), (20, [2, 1], [30, 0, -1, 1, 9, 1, 0, 0]), (20, [2, 2], [30, 0, 1, 1, 8, -1, 1, 6]), (24, [0, 2], []), (101, [2, 9], [7]), (7, [7, 8], [4]), (2, [7, 4, 6], []), (9, [6, 2], [8]), (9, [4, 2], [6]), (7, [4, 5], [3]), (9, [5, 2], [5]), (20, [2, 1], [30, 0, 1, 1, 9, -1, 0, 0]), (20, [2, 1], [30, 0, -1, 1, 9, 1, 0, 0]), (20, [2, 2], [30, 0, 1, 1, 8, -1, 1, 6])], [], [], [(20, [0, 0, 1], [31, 1, 3, 1, 1, 7, 0, 1, 1, 9, -1, 0, 0]), (20, [0, 0, 1], [31, 1, 3, 1, 1, 7, 0, -1, 1, 9, 1, 0, 0]), (20, [0, 0, 0, 0], [31, 1, -3, -1, 1, 7, 4008, 1, 1, 6, -1, 1, 8, 2000, 1, 7]), (20, [0, 0], [30, 0, 1, 1, 8, -1, 1, 6])], [], [(7, 4, -2000, 0), (4, 5, 0, 4294967296)])
theorem oo_Re_advance_17 {kA : Nat → ClassId} : or_ok PRD kA GG o_Re_advance_17 := by
  refine or_mk fun A ta ws vs hD hth hl => ?_
  intro t0 r0 t1 k1 t2 r2 t4 k4 t5 k5 t6 k6 t7 k7 t8 k8 t9 k9 d0 d1 f0 f1 f2 f3 ta1 w1 le1 s1 f5 f6 f7 f8 f9 f10 f11 f12 f13
  replace f3 := shm_5 f3
  have s1 : (∀ b j, w_el ws b j = w_el w1 b j) ∧ ∀ b j, w_fd ws b j = if b = v_ad (n_v vs 2) ∧ j = 7 then n_v vs 9 else w_fd w1 b j := s1.2
  replace f7 := shm_143 f7
  replace f8 := shm_110 f8
  replace f13 := shm_204 f13
  have q2 : n_v vs 2 = n_v vs 0 := f3.symm
  rw [q2] at s1
  simp only [q2] at f7 f8 f13
  have g7 : v_iv (n_v vs 6) = w_fi w1 (n_v vs 0) 8 := congrArg v_iv f7
  have g8 : v_iv (n_v vs 4) = w_fi w1 (n_v vs 0) 6 := congrArg v_iv f8
  have fe_0_5_1 : w_fi ws (n_v vs 0) 5 = w_fi w1 (n_v vs 0) 5 := by show v_iv (w_fd _ _ _) = v_iv (w_fd _ _ _); rw [s1.2, if_neg (fun e => absurd e.2 (by decide))]
  have fe_0_6_1 : w_fi ws (n_v vs 0) 6 = w_fi w1 (n_v vs 0) 6 := by show v_iv (w_fd _ _ _) = v_iv (w_fd _ _ _); rw [s1.2, if_neg (fun e => absurd e.2 (by decide))]
  have fe_0_7_1 : w_fi ws (n_v vs 0) 7 = v_iv (n_v vs 9) := by show v_iv (w_fd _ _ _) = _; rw [s1.2, if_pos ⟨rfl, rfl⟩]
  have fe_0_8_1 : w_fi ws (n_v vs 0) 8 = w_fi w1 (n_v vs 0) 8 := by show v_iv (w_fd _ _ _) = v_iv (w_fd _ _ _); rw [s1.2, if_neg (fun e => absurd e.2 (by decide))]
  have fe_0_9_1 : w_fi ws (n_v vs 0) 9 = w_fi w1 (n_v vs 0) 9 := by show v_iv (w_fd _ _ _) = v_iv (w_fd _ _ _); rw [s1.2, if_neg (fun e => absurd e.2 (by decide))]
  have kz_0_5 := fdq_28 hD hth r0
  have kz_0_6 := fdq_29 hD hth r0
  have kz_0_7 := fdq_30 hD hth r0
  have kz_0_8 := fdq_31 hD hth r0
  have kz_0_9 := fdq_27 hD hth r0
  have nf0 : fc_1 PRD (20, [0, 0, 1], [31, 1, 3, 1, 1, 7, 0, 1, 1, 9, -1, 0, 0]) ws (vs) := ⟨nf_in hl rfl, sgq_201 (vc_Re_advance_17_0 (v_iv (n_v vs 1)) (v_iv (n_v vs 9)) (w_fi ws (n_v vs 0) 9) (w_fi ws (n_v vs 0) 8) (w_fi ws (n_v vs 0) 6) (w_fi w1 (n_v vs 0) 8) (w_fi w1 (n_v vs 0) 6) (w_fi w1 (n_v vs 0) 5) (w_fi w1 (n_v vs 0) 9) (w_fi ws (n_v vs 0) 5) (w_fi ws (n_v vs 0) 7) k1 k9 fe_0_5_1 fe_0_6_1 fe_0_7_1 fe_0_8_1 fe_0_9_1 kz_0_5 kz_0_6 kz_0_7 kz_0_8 kz_0_9)⟩
  have nf1 : fc_1 PRD (20, [0, 0, 1], [31, 1, 3, 1, 1, 7, 0, -1, 1, 9, 1, 0, 0]) ws (vs) := ⟨nf_in hl rfl, sgq_202 (vc_Re_advance_17_1 (v_iv (n_v vs 1)) (v_iv (n_v vs 9)) (w_fi ws (n_v vs 0) 9) (w_fi ws (n_v vs 0) 8) (w_fi ws (n_v vs 0) 6) (w_fi w1 (n_v vs 0) 8) (w_fi w1 (n_v vs 0) 6) (w_fi w1 (n_v vs 0) 5) (w_fi w1 (n_v vs 0) 9) (w_fi ws (n_v vs 0) 5) (w_fi ws (n_v vs 0) 7) k1 k9 fe_0_5_1 fe_0_6_1 fe_0_7_1 fe_0_8_1 fe_0_9_1 kz_0_5 kz_0_6 kz_0_7 kz_0_8 kz_0_9)⟩
  have nf2 : fc_1 PRD (20, [0, 0, 0, 0], [31, 1, -3, -1, 1, 7, 4008, 1, 1, 6, -1, 1, 8, 2000, 1, 7]) ws (vs) := ⟨nf_in hl rfl, sgq_203 (vc_Re_advance_17_2 (v_iv (n_v vs 4)) (v_iv (n_v vs 6)) (v_iv (n_v vs 7)) (v_iv (n_v vs 9)) (w_fi ws (n_v vs 0) 9) (w_fi ws (n_v vs 0) 8) (w_fi ws (n_v vs 0) 6) (w_fi w1 (n_v vs 0) 8) (w_fi w1 (n_v vs 0) 6) (w_fi w1 (n_v vs 0) 5) (w_fi w1 (n_v vs 0) 9) (w_fi ws (n_v vs 0) 5) (w_fi ws (n_v vs 0) 7) k4 k6 k7 k9 (shm_14 f6) g7 g8 fe_0_5_1 fe_0_6_1 fe_0_7_1 fe_0_8_1 fe_0_9_1 kz_0_5 kz_0_6 kz_0_7 kz_0_8 kz_0_9)⟩
  have nf3 : fc_1 PRD (20, [0, 0], [30, 0, 1, 1, 8, -1, 1, 6]) ws (vs) := ⟨nf_in hl rfl, sgq_204 (vc_Re_advance_17_3 (w_fi ws (n_v vs 0) 9) (w_fi ws (n_v vs 0) 8) (w_fi ws (n_v vs 0) 6) (w_fi w1 (n_v vs 0) 8) (w_fi w1 (n_v vs 0) 6) (w_fi w1 (n_v vs 0) 5) (w_fi w1 (n_v vs 0) 9) (w_fi ws (n_v vs 0) 5) f13 fe_0_5_1 fe_0_6_1 fe_0_8_1 fe_0_9_1 kz_0_5 kz_0_6 kz_0_8 kz_0_9)⟩
  refine ⟨(fun _ h => (by cases h)), [], trivial, ?_, (fun _ h => (by cases h))⟩
  rw [List.append_nil]
  exact List.forall_mem_cons.mpr ⟨⟨show (20 : Nat) < 100 from by decide, nf0⟩, List.forall_mem_cons.mpr ⟨⟨show (20 : Nat) < 100 from by decide, nf1⟩, List.forall_mem_cons.mpr ⟨⟨show (20 : Nat) < 100 from by decide, nf2⟩, List.forall_mem_cons.mpr ⟨⟨show (20 : Nat) < 100 from by decide, nf3⟩, (fun _ h => (by cases h))⟩⟩⟩⟩
set_option maxHeartbeats 4000000 in
theorem vc_Re_advance_18_0 (x1 : Int) (x9 : Int) (number_0 : Int) (begin_0 : Int) (next_0 : Int) (begin_1 : Int) (next_1 : Int) (end_1 : Int) (number_1 : Int) (end_0 : Int) (kind_0 : Int) (k1 : (-2147483648) ≤ x1 ∧ x1 ≤ 1000000) (k9 : 2 ≤ x9 ∧ x9 ≤ 2) (fe_0_5_1 : end_0 = end_1) (fe_0_6_1 : next_0 = next_1) (fe_0_7_1 : kind_0 = x9) (fe_0_8_1 : begin_0 = begin_1) (fe_0_9_1 : number_0 = number_1) (kz_0_5 : 0 ≤ end_0 ∧ end_0 ≤ 2000) (kz_0_6 : 0 ≤ next_0 ∧ next_0 ≤ 2000) (kz_0_7 : (-128) ≤ kind_0 ∧ kind_0 ≤ 127) (kz_0_8 : 0 ≤ begin_0 ∧ begin_0 ≤ 2000) (kz_0_9 : (-2147483648) ≤ number_0 ∧ number_0 ≤ 1000000) : (1 * kind_0 + 0 ≤ 3) ∨ (1 * number_0 + ((-1) * x1 + 0) ≤ 0) := by
  subst fe_0_5_1
  subst fe_0_6_1
  subst fe_0_8_1
  subst fe_0_9_1
  first | assumption | omega | grind
set_option maxHeartbeats 4000000 in
theorem vc_Re_advance_18_1 (x1 : Int) (x9 : Int) (number_0 : Int) (begin_0 : Int) (next_0 : Int) (begin_1 : Int) (next_1 : Int) (end_1 : Int) (number_1 : Int) (end_0 : Int) (kind_0 : Int) (k1 : (-2147483648) ≤ x1 ∧ x1 ≤ 1000000) (k9 : 2 ≤ x9 ∧ x9 ≤ 2) (fe_0_5_1 : end_0 = end_1) (fe_0_6_1 : next_0 = next_1) (fe_0_7_1 : kind_0 = x9) (fe_0_8_1 : begin_0 = begin_1) (fe_0_9_1 : number_0 = number_1) (kz_0_5 : 0 ≤ end_0 ∧ end_0 ≤ 2000) (kz_0_6 : 0 ≤ next_0 ∧ next_0 ≤ 2000) (kz_0_7 : (-128) ≤ kind_0 ∧ kind_0 ≤ 127) (kz_0_8 : 0 ≤ begin_0 ∧ begin_0 ≤ 2000) (kz_0_9 : (-2147483648) ≤ number_0 ∧ number_0 ≤ 1000000) : (1 * kind_0 + 0 ≤ 3) ∨ ((-1) * number_0 + (1 * x1 + 0) ≤ 0) := by
  subst fe_0_5_1
  subst fe_0_6_1
  subst fe_0_8_1
  subst fe_0_9_1
  first | assumption | omega | grind
set_option maxHeartbeats 4000000 in
theorem vc_Re_advance_18_2 (x4 : Int) (x6 : Int) (x7 : Int) (x9 : Int) (number_0 : Int) (begin_0 : Int) (next_0 : Int) (begin_1 : Int) (next_1 : Int) (end_1 : Int) (number_1 : Int) (end_0 : Int) (kind_0 : Int) (k4 : 0 ≤ x4 ∧ x4 ≤ 2000) (k6 : 0 ≤ x6 ∧ x6 ≤ 2000) (k7 : (-2000) ≤ x7 ∧ x7 ≤ 8) (k9 : 2 ≤ x9 ∧ x9 ≤ 2) (f2 : 1 * begin_0 + ((-1) * next_0 + 0) ≤ 0) (f6 : x7 = x4 - x6) (g7 : x6 = begin_1) (g8 : x4 = next_1) (fe_0_5_1 : end_0 = end_1) (fe_0_6_1 : next_0 = next_1) (fe_0_7_1 : kind_0 = x9) (fe_0_8_1 : begin_0 = begin_1) (fe_0_9_1 : number_0 = number_1) (kz_0_5 : 0 ≤ end_0 ∧ end_0 ≤ 2000) (kz_0_6 : 0 ≤ next_0 ∧ next_0 ≤ 2000) (kz_0_7 : (-128) ≤ kind_0 ∧ kind_0 ≤ 127) (kz_0_8 : 0 ≤ begin_0 ∧ begin_0 ≤ 2000) (kz_0_9 : (-2147483648) ≤ number_0 ∧ number_0 ≤ 1000000) : ((-1) * kind_0 + 0 ≤ (-3)) ∨ (1 * next_0 + ((-1) * begin_0 + (2000 * kind_0 + 0)) ≤ 4008) := by
  subst fe_0_5_1
  subst fe_0_6_1
  subst fe_0_8_1
  subst fe_0_9_1
  first | assumption | omega | grind
set_option maxHeartbeats 4000000 in
theorem vc_Re_advance_18_3 (number_0 : Int) (begin_0 : Int) (next_0 : Int) (begin_1 : Int) (next_1 : Int) (end_1 : Int) (number_1 : Int) (end_0 : Int) (f13 : 1 * begin_1 + ((-1) * next_1 + 0) ≤ 0) (fe_0_5_1 : end_0 = end_1) (fe_0_6_1 : next_0 = next_1) (fe_0_8_1 : begin_0 = begin_1) (fe_0_9_1 : number_0 = number_1) (kz_0_5 : 0 ≤ end_0 ∧ end_0 ≤ 2000) (kz_0_6 : 0 ≤ next_0 ∧ next_0 ≤ 2000) (kz_0_8 : 0 ≤ begin_0 ∧ begin_0 ≤ 2000) (kz_0_9 : (-2147483648) ≤ number_0 ∧ number_0 ≤ 1000000) : 1 * begin_0 + ((-1) * next_0 + 0) ≤ 0 := by
  subst fe_0_5_1
  subst fe_0_6_1
  subst fe_0_8_1
  subst fe_0_9_1
  first | assumption | omega | grind
def o_Re_advance_18 : or_T := (290, 10, [(0, (2, 0, 0, [8])), (1, (0, -2147483648, 1000000, [])), (2, (2, 0, 0, [8])), (4, (0, 0, 2000, [])), (5, (0, 0, 2000, [])), (6, (0, 0, 2000, [])), (7, (0, -2000, 8, [])), (8, (0, 8, 8, [])), (9, (0, 2, 2, []))], [(20, [2, 1], [30, 0, 1, 1, 9, -1, 0, 0]), (20, [2, 1], [30, 0, -1, 1, 9, 1, 0, 0]), (20, [2, 2], [30, 0, 1, 1, 8, -1, 1, 6]), (24, [0, 2], []), (101, [2, 9], [7]), (7, [7, 8], [5]), (2, [7, 4, 6], []), (9, [6, 2], [8]), (9, [4, 2], [6]), (7, [4, 5], [3]), (9, [5, 2], [5]), (20, [2, 1], [30, 0, 1, 1, 9, -1, 0, 0]), (20, [2, 1], [30, 0, -1, 1, 9, 1, 0, 0]), (20, [2, 2], [30, 0, 1, 1, 8, -1, 1, 6])], [], [], [(20, [0, 0, 1], [31, 1, 3, 1, 1, 7, 0, 1, 1, 9, -1, 0, 0]), (20, [0, 0, 1], [31, 1, 3, 1, 1, 7, 0, -1, 1, 9, 1, 0, 0]), (20, [0, 0, 0, 0], [31, 1, -3, -1, 1, 7, 4008, 1, 1, 6, -1, 1, 8, 2000, 1, 7]), (20, [0, 0], [30, 0, 1, 1, 8, -1, 1, 6])], [], [(7, 4, -2000, 0), (7, 5, -2000, 4294967296), (4, 5, 0, 4294967296)])
theorem oo_Re_advance_18 {kA : Nat → ClassId} : or_ok PRD kA GG o_Re_advance_18 := by
  refine or_mk fun A ta ws vs hD hth hl => ?_
  intro t0 r0 t1 k1 t2 r2 t4 k4 t5 k5 t6 k6 t7 k7 t8 k8 t9 k9 d0 d1 d2 f0 f1 f2 f3 ta1 w1 le1 s1 f5 f6 f7 f8 f9 f10 f11 f12 f13
  replace f2 := shm_204 f2
  replace f3 := shm_5 f3
  have s1 : (∀ b j, w_el ws b j = w_el w1 b j) ∧ ∀ b j, w_fd ws b j = if b = v_ad (n_v vs 2) ∧ j = 7 then n_v vs 9 else w_fd w1 b j := s1.2
  replace f7 := shm_143 f7
  replace f8 := shm_110 f8
  replace f13 := shm_204 f13
  have q2 : n_v vs 2 = n_v vs 0 := f3.symm
  simp only [q2] at f2
  rw [q2] at s1
  simp only [q2] at f7 f8 f13
  have g7 : v_iv (n_v vs 6) = w_fi w1 (n_v vs 0) 8 := congrArg v_iv f7
  have g8 : v_iv (n_v vs 4) = w_fi w1 (n_v vs 0) 6 := congrArg v_iv f8
  have fe_0_5_1 : w_fi ws (n_v vs 0) 5 = w_fi w1 (n_v vs 0) 5 := by show v_iv (w_fd _ _ _) = v_iv (w_fd _ _ _); rw [s1.2, if_neg (fun e => absurd e.2 (by decide))]
  have fe_0_6_1 : w_fi ws (n_v vs 0) 6 = w_fi w1 (n_v vs 0) 6 := by show v_iv (w_fd _ _ _) = v_iv (w_fd _ _ _); rw [s1.2, if_neg (fun e => absurd e.2 (by decide))]
  have fe_0_7_1 : w_fi ws (n_v vs 0) 7 = v_iv (n_v vs 9) := by show v_iv (w_fd _ _ _) = _; rw [s1.2, if_pos ⟨rfl, rfl⟩]
  have fe_0_8_1 : w_fi ws (n_v vs 0) 8 = w_fi w1 (n_v vs 0) 8 := by show v_iv (w_fd _ _ _) = v_iv (w_fd _ _ _); rw [s1.2, if_neg (fun e => absurd e.2 (by decide))]
  have fe_0_9_1 : w_fi ws (n_v vs 0) 9 = w_fi w1 (n_v vs 0) 9 := by show v_iv (w_fd _ _ _) = v_iv (w_fd _ _ _); rw [s1.2, if_neg (fun e => absurd e.2 (by decide))]
  have kz_0_5 := fdq_28 hD hth r0
  have kz_0_6 := fdq_29 hD hth r0
  have kz_0_7 := fdq_30 hD hth r0
  have kz_0_8 := fdq_31 hD hth r0
  have kz_0_9 := fdq_27 hD hth r0
  have nf0 : fc_1 PRD (20, [0, 0, 1], [31, 1, 3, 1, 1, 7, 0, 1, 1, 9, -1, 0, 0]) ws (vs) := ⟨nf_in hl rfl, sgq_201 (vc_Re_advance_18_0 (v_iv (n_v vs 1)) (v_iv (n_v vs 9)) (w_fi ws (n_v vs 0) 9) (w_fi ws (n_v vs 0) 8) (w_fi ws (n_v vs 0) 6) (w_fi w1 (n_v vs 0) 8) (w_fi w1 (n_v vs 0) 6) (w_fi w1 (n_v vs 0) 5) (w_fi w1 (n_v vs 0) 9) (w_fi ws (n_v vs 0) 5) (w_fi ws (n_v vs 0) 7) k1 k9 fe_0_5_1 fe_0_6_1 fe_0_7_1 fe_0_8_1 fe_0_9_1 kz_0_5 kz_0_6 kz_0_7 kz_0_8 kz_0_9)⟩
  have nf1 : fc_1 PRD (20, [0, 0, 1], [31, 1, 3, 1, 1, 7, 0, -1, 1, 9, 1, 0, 0]) ws (vs) := ⟨nf_in hl rfl, sgq_202 (vc_Re_advance_18_1 (v_iv (n_v vs 1)) (v_iv (n_v vs 9)) (w_fi ws (n_v vs 0) 9) (w_fi ws (n_v vs 0) 8) (w_fi ws (n_v vs 0) 6) (w_fi w1 (n_v vs 0) 8) (w_fi w1 (n_v vs 0) 6) (w_fi w1 (n_v vs 0) 5) (w_fi w1 (n_v vs 0) 9) (w_fi ws (n_v vs 0) 5) (w_fi ws (n_v vs 0) 7) k1 k9 fe_0_5_1 fe_0_6_1 fe_0_7_1 fe_0_8_1 fe_0_9_1 kz_0_5 kz_0_6 kz_0_7 kz_0_8 kz_0_9)⟩
  have nf2 : fc_1 PRD (20, [0, 0, 0, 0], [31, 1, -3, -1, 1, 7, 4008, 1, 1, 6, -1, 1, 8, 2000, 1, 7]) ws (vs) := ⟨nf_in hl rfl, sgq_203 (vc_Re_advance_18_2 (v_iv (n_v vs 4)) (v_iv (n_v vs 6)) (v_iv (n_v vs 7)) (v_iv (n_v vs 9)) (w_fi ws (n_v vs 0) 9) (w_fi ws (n_v vs 0) 8) (w_fi ws (n_v vs 0) 6) (w_fi w1 (n_v vs 0) 8) (w_fi w1 (n_v vs 0) 6) (w_fi w1 (n_v vs 0) 5) (w_fi w1 (n_v vs 0) 9) (w_fi ws (n_v vs 0) 5) (w_fi ws (n_v vs 0) 7) k4 k6 k7 k9 f2 (shm_14 f6) g7 g8 fe_0_5_1 fe_0_6_1 fe_0_7_1 fe_0_8_1 fe_0_9_1 kz_0_5 kz_0_6 kz_0_7 kz_0_8 kz_0_9)⟩
  have nf3 : fc_1 PRD (20, [0, 0], [30, 0, 1, 1, 8, -1, 1, 6]) ws (vs) := ⟨nf_in hl rfl, sgq_204 (vc_Re_advance_18_3 (w_fi ws (n_v vs 0) 9) (w_fi ws (n_v vs 0) 8) (w_fi ws (n_v vs 0) 6) (w_fi w1 (n_v vs 0) 8) (w_fi w1 (n_v vs 0) 6) (w_fi w1 (n_v vs 0) 5) (w_fi w1 (n_v vs 0) 9) (w_fi ws (n_v vs 0) 5) f13 fe_0_5_1 fe_0_6_1 fe_0_8_1 fe_0_9_1 kz_0_5 kz_0_6 kz_0_8 kz_0_9)⟩
  refine ⟨(fun _ h => (by cases h)), [], trivial, ?_, (fun _ h => (by cases h))⟩
  rw [List.append_nil]
  exact List.forall_mem_cons.mpr ⟨⟨show (20 : Nat) < 100 from by decide, nf0⟩, List.forall_mem_cons.mpr ⟨⟨show (20 : Nat) < 100 from by decide, nf1⟩, List.forall_mem_cons.mpr ⟨⟨show (20 : Nat) < 100 from by decide, nf2⟩, List.forall_mem_cons.mpr ⟨⟨show (20 : Nat) < 100 from by decide, nf3⟩, (fun _ h => (by cases h))⟩⟩⟩⟩
set_option maxHeartbeats 4000000 in
theorem vc_Re_advance_19_0 (x1 : Int) (x12 : Int) (number_0 : Int) (begin_0 : Int) (next_0 : Int) (begin_1 : Int) (next_1 : Int) (end_1 : Int) (number_1 : Int) (end_0 : Int) (kind_0 : Int) (k1 : (-2147483648) ≤ x1 ∧ x1 ≤ 1000000) (k12 : 1 ≤ x12 ∧ x12 ≤ 1) (fe_0_5_1 : end_0 = end_1) (fe_0_6_1 : next_0 = next_1) (fe_0_7_1 : kind_0 = x12) (fe_0_8_1 : begin_0 = begin_1) (fe_0_9_1 : number_0 = number_1) (kz_0_5 : 0 ≤ end_0 ∧ end_0 ≤ 2000) (kz_0_6 : 0 ≤ next_0 ∧ next_0 ≤ 2000) (kz_0_7 : (-128) ≤ kind_0 ∧ kind_0 ≤ 127) (kz_0_8 : 0 ≤ begin_0 ∧ begin_0 ≤ 2000) (kz_0_9 : (-2147483648) ≤ number_0 ∧ number_0 ≤ 1000000) : (1 * kind_0 + 0 ≤ 3) ∨ (1 * number_0 + ((-1) * x1 + 0) ≤ 0) := by
  subst fe_0_5_1
  subst fe_0_6_1
  subst fe_0_8_1
  subst fe_0_9_1
  first | assumption | omega | grind
set_option maxHeartbeats 4000000 in
theorem vc_Re_advance_19_1 (x1 : Int) (x12 : Int) (number_0 : Int) (begin_0 : Int) (next_0 : Int) (begin_1 : Int) (next_1 : Int) (end_1 : Int) (number_1 : Int) (end_0 : Int) (kind_0 : Int) (k1 : (-2147483648) ≤ x1 ∧ x1 ≤ 1000000) (k12 : 1 ≤ x12 ∧ x12 ≤ 1) (fe_0_5_1 : end_0 = end_1) (fe_0_6_1 : next_0 = next_1) (fe_0_7_1 : kind_0 = x12) (fe_0_8_1 : begin_0 = begin_1) (fe_0_9_1 : number_0 = number_1) (kz_0_5 : 0 ≤ end_0 ∧ end_0 ≤ 2000) (kz_0_6 : 0 ≤ next_0 ∧ next_0 ≤ 2000) (kz_0_7 : (-128) ≤ kind_0 ∧ kind_0 ≤ 127) (kz_0_8 : 0 ≤ begin_0 ∧ begin_0 ≤ 2000) (kz_0_9 : (-2147483648) ≤ number_0 ∧ number_0 ≤ 1000000) : (1 * kind_0 + 0 ≤ 3) ∨ ((-1) * number_0 + (1 * x1 + 0) ≤ 0) := by
  subst fe_0_5_1
  subst fe_0_6_1
  subst fe_0_8_1
  subst fe_0_9_1
  first | assumption | omega | grind
set_option maxHeartbeats 4000000 in
theorem vc_Re_advance_19_2 (x4 : Int) (x9 : Int) (x10 : Int) (x12 : Int) (number_0 : Int) (begin_0 : Int) (next_0 : Int) (begin_1 : Int) (next_1 : Int) (end_1 : Int) (number_1 : Int) (end_0 : Int) (kind_0 : Int) (k4 : 9 ≤ x4 ∧ x4 ≤ 1999) (k9 : 0 ≤ x9 ∧ x9 ≤ 2000) (k10 : 9 ≤ x10 ∧ x10 ≤ 1999) (k12 : 1 ≤ x12 ∧ x12 ≤ 1) (f6 : x10 = x4 - x9) (g7 : x9 = begin_1) (g8 : x4 = next_1) (fe_0_5_1 : end_0 = end_1) (fe_0_6_1 : next_0 = next_1) (fe_0_7_1 : kind_0 = x12) (fe_0_8_1 : begin_0 = begin_1) (fe_0_9_1 : number_0 = number_1) (kz_0_5 : 0 ≤ end_0 ∧ end_0 ≤ 2000) (kz_0_6 : 0 ≤ next_0 ∧ next_0 ≤ 2000) (kz_0_7 : (-128) ≤ kind_0 ∧ kind_0 ≤ 127) (kz_0_8 : 0 ≤ begin_0 ∧ begin_0 ≤ 2000) (kz_0_9 : (-2147483648) ≤ number_0 ∧ number_0 ≤ 1000000) : ((-1) * kind_0 + 0 ≤ (-3)) ∨ (1 * next_0 + ((-1) * begin_0 + (2000 * kind_0 + 0)) ≤ 4008) := by
  subst fe_0_5_1
  subst fe_0_6_1
  subst fe_0_8_1
  subst fe_0_9_1
  first | assumption | omega | grind
set_option maxHeartbeats 4000000 in
theorem vc_Re_advance_19_3 (number_0 : Int) (begin_0 : Int) (next_0 : Int) (begin_1 : Int) (next_1 : Int) (end_1 : Int) (number_1 : Int) (end_0 : Int) (f13 : 1 * begin_1 + ((-1) * next_1 + 0) ≤ 0) (fe_0_5_1 : end_0 = end_1) (fe_0_6_1 : next_0 = next_1) (fe_0_8_1 : begin_0 = begin_1) (fe_0_9_1 : number_0 = number_1) (kz_0_5 : 0 ≤ end_0 ∧ end_0 ≤ 2000) (kz_0_6 : 0 ≤ next_0 ∧ next_0 ≤ 2000) (kz_0_8 : 0 ≤ begin_0 ∧ begin_0 ≤ 2000) (kz_0_9 : (-2147483648) ≤ number_0 ∧ number_0 ≤ 1000000) : 1 * begin_0 + ((-1) * next_0 + 0) ≤ 0 := by
  subst fe_0_5_1
  subst fe_0_6_1
  subst fe_0_8_1
  subst fe_0_9_1
  first | assumption | omega | grind
def o_Re_advance_19 : or_T := (290, 13, [(0, (2, 0, 0, [8])), (1, (0, -2147483648, 1000000, [])), (2, (2, 0, 0, [8])), (4, (0, 9, 1999, [])), (5, (0, 10, 2000, [])), (9, (0, 0, 2000, [])), (10, (0, 9, 1999, [])), (11, (0, 8, 8, [])), (12, (0, 1, 1, []))], [(20, [2, 1], [30, 0, 1, 1, 9, -1, 0, 0]), (20, [2, 1], [30, 0, -1, 1, 9, 1, 0, 0]), (20, [2, 2], [30, 0, 1, 1, 8, -1, 1, 6]), (24, [0, 2], []), (101, [2, 12], [7]), (7, [10, 11], [4]), (2, [10, 4, 9], []), (9, [9, 2], [8]), (9, [4, 2], [6]), (7, [4, 5], [2]), (9, [5, 2], [5]), (20, [2, 1], [30, 0, 1, 1, 9, -1, 0, 0]), (20, [2, 1], [30, 0, -1, 1, 9, 1, 0, 0]), (20, [2, 2], [30, 0, 1, 1, 8, -1, 1, 6])], [], [], [(20, [0, 0, 1], [31, 1, 3, 1, 1, 7, 0, 1, 1, 9, -1, 0, 0]), (20, [0, 0, 1], [31, 1, 3, 1, 1, 7, 0, -1, 1, 9, 1, 0, 0]), (20, [0, 0, 0, 0], [31, 1, -3, -1, 1, 7, 4008, 1, 1, 6, -1, 1, 8, 2000, 1, 7]), (20, [0, 0], [30, 0, 1, 1, 8, -1, 1, 6])], [], [(10, 4, -2000, 0), (10, 5, -4294967296, -1), (4, 5, -4294967296, -1)])
theorem oo_Re_advance_19 {kA : Nat → ClassId} : or_ok PRD kA GG o_Re_advance_19 := by
  refine or_mk fun A ta ws vs hD hth hl => ?_
  intro t0 r0 t1 k1 t2 r2 t4 k4 t5 k5 t9 k9 t10 k10 t11 k11 t12 k12 d0 d1 d2 f0 f1 f2 f3 ta1 w1 le1 s1 f5 f6 f7 f8 f9 f10 f11 f12 f13
  replace f3 := shm_5 f3
  have s1 : (∀ b j, w_el ws b j = w_el w1 b j) ∧ ∀ b j, w_fd ws b j = if b = v_ad (n_v vs 2) ∧ j = 7 then n_v vs 12 else w_fd w1 b j := s1.2
  replace f7 := shm_143 f7
  replace f8 := shm_110 f8
  replace f13 := shm_204 f13
  have q2 : n_v vs 2 = n_v vs 0 := f3.symm
  rw [q2] at s1
  simp only [q2] at f7 f8 f13
  have g7 : v_iv (n_v vs 9) = w_fi w1 (n_v vs 0) 8 := congrArg v_iv f7
  have g8 : v_iv (n_v vs 4) = w_fi w1 (n_v vs 0) 6 := congrArg v_iv f8
  have fe_0_5_1 : w_fi ws (n_v vs 0) 5 = w_fi w1 (n_v vs 0) 5 := by show v_iv (w_fd _ _ _) = v_iv (w_fd _ _ _); rw [s1.2, if_neg (fun e => absurd e.2 (by decide))]
  have fe_0_6_1 : w_fi ws (n_v vs 0) 6 = w_fi w1 (n_v vs 0) 6 := by show v_iv (w_fd _ _ _) = v_iv (w_fd _ _ _); rw [s1.2, if_neg (fun e => absurd e.2 (by decide))]
  have fe_0_7_1 : w_fi ws (n_v vs 0) 7 = v_iv (n_v vs 12) := by show v_iv (w_fd _ _ _) = _; rw [s1.2, if_pos ⟨rfl, rfl⟩]
  have fe_0_8_1 : w_fi ws (n_v vs 0) 8 = w_fi w1 (n_v vs 0) 8 := by show v_iv (w_fd _ _ _) = v_iv (w_fd _ _ _); rw [s1.2, if_neg (fun e => absurd e.2 (by decide))]
  have fe_0_9_1 : w_fi ws (n_v vs 0) 9 = w_fi w1 (n_v vs 0) 9 := by show v_iv (w_fd _ _ _) = v_iv (w_fd _ _ _); rw [s1.2, if_neg (fun e => absurd e.2 (by decide))]
  have kz_0_5 := fdq_28 hD hth r0
  have kz_0_6 := fdq_29 hD hth r0
  have kz_0_7 := fdq_30 hD hth r0
  have kz_0_8 := fdq_31 hD hth r0
  have kz_0_9 := fdq_27 hD hth r0
  have nf0 : fc_1 PRD (20, [0, 0, 1], [31, 1, 3, 1, 1, 7, 0, 1, 1, 9, -1, 0, 0]) ws (vs) := ⟨nf_in hl rfl, sgq_201 (vc_Re_advance_19_0 (v_iv (n_v vs 1)) (v_iv (n_v vs 12)) (w_fi ws (n_v vs 0) 9) (w_fi ws (n_v vs 0) 8) (w_fi ws (n_v vs 0) 6) (w_fi w1 (n_v vs 0) 8) (w_fi w1 (n_v vs 0) 6) (w_fi w1 (n_v vs 0) 5) (w_fi w1 (n_v vs 0) 9) (w_fi ws (n_v vs 0) 5) (w_fi ws (n_v vs 0) 7) k1 k12 fe_0_5_1 fe_0_6_1 fe_0_7_1 fe_0_8_1 fe_0_9_1 kz_0_5 kz_0_6 kz_0_7 kz_0_8 kz_0_9)⟩
  have nf1 : fc_1 PRD (20, [0, 0, 1], [31, 1, 3, 1, 1, 7, 0, -1, 1, 9, 1, 0, 0]) ws (vs) := ⟨nf_in hl rfl, sgq_202 (vc_Re_advance_19_1 (v_iv (n_v vs 1)) (v_iv (n_v vs 12)) (w_fi ws (n_v vs 0) 9) (w_fi ws (n_v vs 0) 8) (w_fi ws (n_v vs 0) 6) (w_fi w1 (n_v vs 0) 8) (w_fi w1 (n_v vs 0) 6) (w_fi w1 (n_v vs 0) 5) (w_fi w1 (n_v vs 0) 9) (w_fi ws (n_v vs 0) 5) (w_fi ws (n_v vs 0) 7) k1 k12 fe_0_5_1 fe_0_6_1 fe_0_7_1 fe_0_8_1 fe_0_9_1 kz_0_5 kz_0_6 kz_0_7 kz_0_8 kz_0_9)⟩
  have nf2 : fc_1 PRD (20, [0, 0, 0, 0], [31, 1, -3, -1, 1, 7, 4008, 1, 1, 6, -1, 1, 8, 2000, 1, 7]) ws (vs) := ⟨nf_in hl rfl, sgq_203 (vc_Re_advance_19_2 (v_iv (n_v vs 4)) (v_iv (n_v vs 9)) (v_iv (n_v vs 10)) (v_iv (n_v vs 12)) (w_fi ws (n_v vs 0) 9) (w_fi ws (n_v vs 0) 8) (w_fi ws (n_v vs 0) 6) (w_fi w1 (n_v vs 0) 8) (w_fi w1 (n_v vs 0) 6) (w_fi w1 (n_v vs 0) 5) (w_fi w1 (n_v vs 0) 9) (w_fi ws (n_v vs 0) 5) (w_fi ws (n_v vs 0) 7) k4 k9 k10 k12 (shm_14 f6) g7 g8 fe_0_5_1 fe_0_6_1 fe_0_7_1 fe_0_8_1 fe_0_9_1 kz_0_5 kz_0_6 kz_0_7 kz_0_8 kz_0_9)⟩
  have nf3 : fc_1 PRD (20, [0, 0], [30, 0, 1, 1, 8, -1, 1, 6]) ws (vs) := ⟨nf_in hl rfl, sgq_204 (vc_Re_advance_19_3 (w_fi ws (n_v vs 0) 9) (w_fi ws (n_v vs 0) 8) (w_fi ws (n_v vs 0) 6) (w_fi w1 (n_v vs 0) 8) (w_fi w1 (n_v vs 0) 6) (w_fi w1 (n_v vs 0) 5) (w_fi w1 (n_v vs 0) 9) (w_fi ws (n_v vs 0) 5) f13 fe_0_5_1 fe_0_6_1 fe_0_8_1 fe_0_9_1 kz_0_5 kz_0_6 kz_0_8 kz_0_9)⟩
  refine ⟨(fun _ h => (by cases h)), [], trivial, ?_, (fun _ h => (by cases h))⟩
  rw [List.append_nil]
  exact List.forall_mem_cons.mpr ⟨⟨show (20 : Nat) < 100 from by decide, nf0⟩, List.forall_mem_cons.mpr ⟨⟨show (20 : Nat) < 100 from by decide, nf1⟩, List.forall_mem_cons.mpr ⟨⟨show (20 : Nat) < 100 from by decide, nf2⟩, List.forall_mem_cons.mpr ⟨⟨show (20 : Nat) < 100 from by decide, nf3⟩, (fun _ h => (by cases h))⟩⟩⟩⟩
set_option maxHeartbeats 4000000 in
theorem vc_Re_advance_20_0 (x1 : Int) (x12 : Int) (number_0 : Int) (begin_0 : Int) (next_0 : Int) (begin_1 : Int) (next_1 : Int) (end_1 : Int) (number_1 : Int) (end_0 : Int) (kind_0 : Int) (k1 : (-2147483648) ≤ x1 ∧ x1 ≤ 1000000) (k12 : 2 ≤ x12 ∧ x12 ≤ 2) (fe_0_5_1 : end_0 = end_1) (fe_0_6_1 : next_0 = next_1) (fe_0_7_1 : kind_0 = x12) (fe_0_8_1 : begin_0 = begin_1) (fe_0_9_1 : number_0 = number_1) (kz_0_5 : 0 ≤ end_0 ∧ end_0 ≤ 2000) (kz_0_6 : 0 ≤ next_0 ∧ next_0 ≤ 2000) (kz_0_7 : (-128) ≤ kind_0 ∧ kind_0 ≤ 127) (kz_0_8 : 0 ≤ begin_0 ∧ begin_0 ≤ 2000) (kz_0_9 : (-2147483648) ≤ number_0 ∧ number_0 ≤ 1000000) : (1 * kind_0 + 0 ≤ 3) ∨ (1 * number_0 + ((-1) * x1 + 0) ≤ 0) := by
  subst fe_0_5_1
  subst fe_0_6_1
  subst fe_0_8_1
  subst fe_0_9_1
  first | assumption | omega | grind
set_option maxHeartbeats 4000000 in
theorem vc_Re_advance_20_1 (x1 : Int) (x12 : Int) (number_0 : Int) (begin_0 : Int) (next_0 : Int) (begin_1 : Int) (next_1 : Int) (end_1 : Int) (number_1 : Int) (end_0 : Int) (kind_0 : Int) (k1 : (-2147483648) ≤ x1 ∧ x1 ≤ 1000000) (k12 : 2 ≤ x12 ∧ x12 ≤ 2) (fe_0_5_1 : end_0 = end_1) (fe_0_6_1 : next_0 = next_1) (fe_0_7_1 : kind_0 = x12) (fe_0_8_1 : begin_0 = begin_1) (fe_0_9_1 : number_0 = number_1) (kz_0_5 : 0 ≤ end_0 ∧ end_0 ≤ 2000) (kz_0_6 : 0 ≤ next_0 ∧ next_0 ≤ 2000) (kz_0_7 : (-128) ≤ kind_0 ∧ kind_0 ≤ 127) (kz_0_8 : 0 ≤ begin_0 ∧ begin_0 ≤ 2000) (kz_0_9 : (-2147483648) ≤ number_0 ∧ number_0 ≤ 1000000) : (1 * kind_0 + 0 ≤ 3) ∨ ((-1) * number_0 + (1 * x1 + 0) ≤ 0) := by
  subst fe_0_5_1
  subst fe_0_6_1
  subst fe_0_8_1
  subst fe_0_9_1
  first | assumption | omega | grind
set_option maxHeartbeats 4000000 in
theorem vc_Re_advance_20_2 (x4 : Int) (x9 : Int) (x10 : Int) (x12 : Int) (number_0 : Int) (begin_0 : Int) (next_0 : Int) (begin_1 : Int) (next_1 : Int) (end_1 : Int) (number_1 : Int) (end_0 : Int) (kind_0 : Int) (k4 : 0 ≤ x4 ∧ x4 ≤ 1999) (k9 : 0 ≤ x9 ∧ x9 ≤ 2000) (k10 : (-2000) ≤ x10 ∧ x10 ≤ 8) (k12 : 2 ≤ x12 ∧ x12 ≤ 2) (f2 : 1 * begin_0 + ((-1) * next_0 + 0) ≤ 0) (f6 : x10 = x4 - x9) (g7 : x9 = begin_1) (g8 : x4 = next_1) (fe_0_5_1 : end_0 = end_1) (fe_0_6_1 : next_0 = next_1) (fe_0_7_1 : kind_0 = x12) (fe_0_8_1 : begin_0 = begin_1) (fe_0_9_1 : number_0 = number_1) (kz_0_5 : 0 ≤ end_0 ∧ end_0 ≤ 2000) (kz_0_6 : 0 ≤ next_0 ∧ next_0 ≤ 2000) (kz_0_7 : (-128) ≤ kind_0 ∧ kind_0 ≤ 127) (kz_0_8 : 0 ≤ begin_0 ∧ begin_0 ≤ 2000) (kz_0_9 : (-2147483648) ≤ number_0 ∧ number_0 ≤ 1000000) : ((-1) * kind_0 + 0 ≤ (-3)) ∨ (1 * next_0 + ((-1) * begin_0 + (2000 * kind_0 + 0)) ≤ 4008) := by
  subst fe_0_5_1
  subst fe_0_6_1
  subst fe_0_8_1
  subst fe_0_9_1
  first | assumption | omega | grind
set_option maxHeartbeats 4000000 in
theorem vc_Re_advance_20_3 (number_0 : Int) (begin_0 : Int) (next_0 : Int) (begin_1 : Int) (next_1 : Int) (end_1 : Int) (number_1 : Int) (end_0 : Int) (f13 : 1 * begin_1 + ((-1) * next_1 + 0) ≤ 0) (fe_0_5_1 : end_0 = end_1) (fe_0_6_1 : next_0 = next_1) (fe_0_8_1 : begin_0 = begin_1) (fe_0_9_1 : number_0 = number_1) (kz_0_5 : 0 ≤ end_0 ∧ end_0 ≤ 2000) (kz_0_6 : 0 ≤ next_0 ∧ next_0 ≤ 2000) (kz_0_8 : 0 ≤ begin_0 ∧ begin_0 ≤ 2000) (kz_0_9 : (-2147483648) ≤ number_0 ∧ number_0 ≤ 1000000) : 1 * begin_0 + ((-1) * next_0 + 0) ≤ 0 := by
  subst fe_0_5_1
  subst fe_0_6_1
  subst fe_0_8_1
  subst fe_0_9_1
  first | assumption | omega | grind
def o_Re_advance_20 : or_T := (290, 13, [(0, (2, 0, 0, [8])), (1, (0, -2147483648, 1000000, [])), (2, (2, 0, 0, [8])), (4, (0, 0, 1999, [])), (5, (0, 1, 2000, [])), (9, (0, 0, 2000, [])), (10, (0, -2000, 8, [])), (11, (0, 8, 8, [])), (12, (0, 2, 2, []))], [(20, [2, 1], [30, 0, 1, 1, 9, -1, 0, 0]), (20, [2, 1], [30, 0, -1, 1, 9, 1, 0, 0]), (20, [2, 2], [30, 0, 1, 1, 8, -1, 1, 6]), (24, [0, 2], []), (101, [2, 12], [7]), (7, [10, 11], [5]), (2, [10, 4, 9], []), (9, [9, 2], [8]), (9, [4, 2], [6]), (7, [4, 5], [2]), (9, [5, 2], [5]), (20, [2, 1], [30, 0, 1, 1, 9, -1, 0, 0]), (20, [2, 1], [30, 0, -1, 1, 9, 1, 0, 0]), (20, [2, 2], [30, 0, 1, 1, 8, -1, 1, 6])], [], [], [(20, [0, 0, 1], [31, 1, 3, 1, 1, 7, 0, 1, 1, 9, -1, 0, 0]), (20, [0, 0, 1], [31, 1, 3, 1, 1, 7, 0, -1, 1, 9, 1, 0, 0]), (20, [0, 0, 0, 0], [31, 1, -3, -1, 1, 7, 4008, 1, 1, 6, -1, 1, 8, 2000, 1, 7]), (20, [0, 0], [30, 0, 1, 1, 8, -1, 1, 6])], [], [(10, 4, -2000, 0), (10, 5, -4294967296, -1), (4, 5, -4294967296, -1)])
theorem oo_Re_advance_20 {kA : Nat → ClassId} : or_ok PRD kA GG o_Re_advance_20 := by
  refine or_mk fun A ta ws vs hD hth hl => ?_
  intro t0 r0 t1 k1 t2 r2 t4 k4 t5 k5 t9 k9 t10 k10 t11 k11 t12 k12 d0 d1 d2 f0 f1 f2 f3 ta1 w1 le1 s1 f5 f6 f7 f8 f9 f10 f11 f12 f13
  replace f2 := shm_204 f2
  replace f3 := shm_5 f3
  have s1 : (∀ b j, w_el ws b j = w_el w1 b j) ∧ ∀ b j, w_fd ws b j = if b = v_ad (n_v vs 2) ∧ j = 7 then n_v vs 12 else w_fd w1 b j := s1.2
  replace f7 := shm_143 f7
  replace f8 := shm_110 f8
  replace f13 := shm_204 f13
  have q2 : n_v vs 2 = n_v vs 0 := f3.symm
  simp only [q2] at f2
  rw [q2] at s1
  simp only [q2] at f7 f8 f13
  have g7 : v_iv (n_v vs 9) = w_fi w1 (n_v vs 0) 8 := congrArg v_iv f7
  have g8 : v_iv (n_v vs 4) = w_fi w1 (n_v vs 0) 6 := congrArg v_iv f8
  have fe_0_5_1 : w_fi ws (n_v vs 0) 5 = w_fi w1 (n_v vs 0) 5 := by show v_iv (w_fd _ _ _) = v_iv (w_fd _ _ _); rw [s1.2, if_neg (fun e => absurd e.2 (by decide))]
  have fe_0_6_1 : w_fi ws (n_v vs 0) 6 = w_fi w1 (n_v vs 0) 6 := by show v_iv (w_fd _ _ _) = v_iv (w_fd _ _ _); rw [s1.2, if_neg (fun e => absurd e.2 (by decide))]
  have fe_0_7_1 : w_fi ws (n_v vs 0) 7 = v_iv (n_v vs 12) := by show v_iv (w_fd _ _ _) = _; rw [s1.2, if_pos ⟨rfl, rfl⟩]
  have fe_0_8_1 : w_fi ws (n_v vs 0) 8 = w_fi w1 (n_v vs 0) 8 := by show v_iv (w_fd _ _ _) = v_iv (w_fd _ _ _); rw [s1.2, if_neg (fun e => absurd e.2 (by decide))]
  have fe_0_9_1 : w_fi ws (n_v vs 0) 9 = w_fi w1 (n_v vs 0) 9 := by show v_iv (w_fd _ _ _) = v_iv (w_fd _ _ _); rw [s1.2, if_neg (fun e => absurd e.2 (by decide))]
  have kz_0_5 := fdq_28 hD hth r0
  have kz_0_6 := fdq_29 hD hth r0
  have kz_0_7 := fdq_30 hD hth r0
  have kz_0_8 := fdq_31 hD hth r0
  have kz_0_9 := fdq_27 hD hth r0
  have nf0 : fc_1 PRD (20, [0, 0, 1], [31, 1, 3, 1, 1, 7, 0, 1, 1, 9, -1, 0, 0]) ws (vs) := ⟨nf_in hl rfl, sgq_201 (vc_Re_advance_20_0 (v_iv (n_v vs 1)) (v_iv (n_v vs 12)) (w_fi ws (n_v vs 0) 9) (w_fi ws (n_v vs 0) 8) (w_fi ws (n_v vs 0) 6) (w_fi w1 (n_v vs 0) 8) (w_fi w1 (n_v vs 0) 6) (w_fi w1 (n_v vs 0) 5) (w_fi w1 (n_v vs 0) 9) (w_fi ws (n_v vs 0) 5) (w_fi ws (n_v vs 0) 7) k1 k12 fe_0_5_1 fe_0_6_1 fe_0_7_1 fe_0_8_1 fe_0_9_1 kz_0_5 kz_0_6 kz_0_7 kz_0_8 kz_0_9)⟩
  have nf1 : fc_1 PRD (20, [0, 0, 1], [31, 1, 3, 1, 1, 7, 0, -1, 1, 9, 1, 0, 0]) ws (vs) := ⟨nf_in hl rfl, sgq_202 (vc_Re_advance_20_1 (v_iv (n_v vs 1)) (v_iv (n_v vs 12)) (w_fi ws (n_v vs 0) 9) (w_fi ws (n_v vs 0) 8) (w_fi ws (n_v vs 0) 6) (w_fi w1 (n_v vs 0) 8) (w_fi w1 (n_v vs 0) 6) (w_fi w1 (n_v vs 0) 5) (w_fi w1 (n_v vs 0) 9) (w_fi ws (n_v vs 0) 5) (w_fi ws (n_v vs 0) 7) k1 k12 fe_0_5_1 fe_0_6_1 fe_0_7_1 fe_0_8_1 fe_0_9_1 kz_0_5 kz_0_6 kz_0_7 kz_0_8 kz_0_9)⟩
  have nf2 : fc_1 PRD (20, [0, 0, 0, 0], [31, 1, -3, -1, 1, 7, 4008, 1, 1, 6, -1, 1, 8, 2000, 1, 7]) ws (vs) := ⟨nf_in hl rfl, sgq_203 (vc_Re_advance_20_2 (v_iv (n_v vs 4)) (v_iv (n_v vs 9)) (v_iv (n_v vs 10)) (v_iv (n_v vs 12)) (w_fi ws (n_v vs 0) 9) (w_fi ws (n_v vs 0) 8) (w_fi ws (n_v vs 0) 6) (w_fi w1 (n_v vs 0) 8) (w_fi w1 (n_v vs 0) 6) (w_fi w1 (n_v vs 0) 5) (w_fi w1 (n_v vs 0) 9) (w_fi ws (n_v vs 0) 5) (w_fi ws (n_v vs 0) 7) k4 k9 k10 k12 f2 (shm_14 f6) g7 g8 fe_0_5_1 fe_0_6_1 fe_0_7_1 fe_0_8_1 fe_0_9_1 kz_0_5 kz_0_6 kz_0_7 kz_0_8 kz_0_9)⟩
  have nf3 : fc_1 PRD (20, [0, 0], [30, 0, 1, 1, 8, -1, 1, 6]) ws (vs) := ⟨nf_in hl rfl, sgq_204 (vc_Re_advance_20_3 (w_fi ws (n_v vs 0) 9) (w_fi ws (n_v vs 0) 8) (w_fi ws (n_v vs 0) 6) (w_fi w1 (n_v vs 0) 8) (w_fi w1 (n_v vs 0) 6) (w_fi w1 (n_v vs 0) 5) (w_fi w1 (n_v vs 0) 9) (w_fi ws (n_v vs 0) 5) f13 fe_0_5_1 fe_0_6_1 fe_0_8_1 fe_0_9_1 kz_0_5 kz_0_6 kz_0_8 kz_0_9)⟩
  refine ⟨(fun _ h => (by cases h)), [], trivial, ?_, (fun _ h => (by cases h))⟩
  rw [List.append_nil]
  exact List.forall_mem_cons.mpr ⟨⟨show (20 : Nat) < 100 from by decide, nf0⟩, List.forall_mem_cons.mpr ⟨⟨show (20 : Nat) < 100 from by decide, nf1⟩, List.forall_mem_cons.mpr ⟨⟨show (20 : Nat) < 100 from by decide, nf2⟩, List.forall_mem_cons.mpr ⟨⟨show (20 : Nat) < 100 from by decide, nf3⟩, (fun _ h => (by cases h))⟩⟩⟩⟩
set_option maxHeartbeats 4000000 in
theorem vc_Re_advance_21_0 (x4 : Int) (x10 : Int) (number_0 : Int) (next_1 : Int) (end_1 : Int) (number_1 : Int) (begin_1 : Int) (end_0 : Int) (next_0 : Int) (begin_0 : Int) (k4 : 0 ≤ x4 ∧ x4 ≤ 1999) (k10 : 1 ≤ x10 ∧ x10 ≤ 2000) (d0 : x4 + 1 ≤ x10 ∧ x10 ≤ x4 + 1) (g5 : x4 = next_1) (f10 : 1 * begin_1 + ((-1) * next_1 + 0) ≤ 0) (fe_0_5_1 : end_0 = end_1) (fe_0_6_1 : next_0 = x10) (fe_0_8_1 : begin_0 = begin_1) (fe_0_9_1 : number_0 = number_1) (kz_0_5 : 0 ≤ end_0 ∧ end_0 ≤ 2000) (kz_0_6 : 0 ≤ next_0 ∧ next_0 ≤ 2000) (kz_0_8 : 0 ≤ begin_0 ∧ begin_0 ≤ 2000) (kz_0_9 : (-2147483648) ≤ number_0 ∧ number_0 ≤ 1000000) : 1 * begin_0 + ((-1) * next_0 + 0) ≤ 0 := by
  subst fe_0_5_1
  subst fe_0_8_1
  subst fe_0_9_1
  first | assumption | omega | grind
def o_Re_advance_21 : or_T := (94, 11, [(0, (2, 0, 0, [8])), (4, (0, 0, 1999, [])), (10, (0, 1, 2000, []))], [(24, [0, 2], []), (101, [2, 10], [6]), (9, [4, 2], [6]), (20, [2, 2], [30, 0, 1, 1, 8, -1, 1, 6])], [], [], [(20, [2, 2], [30, 0, 1, 1, 8, -1, 1, 6])], [], [(10, 4, 1, 1)])
theorem oo_Re_advance_21 {kA : Nat → ClassId} : or_ok PRD kA GG o_Re_advance_21 := by
  refine or_mk fun A ta ws vs hD hth hl => ?_
  intro t0 r0 t4 k4 t10 k10 d0 f2 ta1 w1 le1 s1 f5 f10
  replace f2 := shm_5 f2
  have s1 : (∀ b j, w_el ws b j = w_el w1 b j) ∧ ∀ b j, w_fd ws b j = if b = v_ad (n_v vs 2) ∧ j = 6 then n_v vs 10 else w_fd w1 b j := s1.2
  replace f5 := shm_110 f5
  replace f10 := shm_204 f10
  have q2 : n_v vs 2 = n_v vs 0 := f2.symm
  rw [q2] at s1
  simp only [q2] at f5 f10
  have g5 : v_iv (n_v vs 4) = w_fi w1 (n_v vs 0) 6 := congrArg v_iv f5
  have fe_0_5_1 : w_fi ws (n_v vs 0) 5 = w_fi w1 (n_v vs 0) 5 := by show v_iv (w_fd _ _ _) = v_iv (w_fd _ _ _); rw [s1.2, if_neg (fun e => absurd e.2 (by decide))]
  have fe_0_6_1 : w_fi ws (n_v vs 0) 6 = v_iv (n_v vs 10) := by show v_iv (w_fd _ _ _) = _; rw [s1.2, if_pos ⟨rfl, rfl⟩]
  have fe_0_8_1 : w_fi ws (n_v vs 0) 8 = w_fi w1 (n_v vs 0) 8 := by show v_iv (w_fd _ _ _) = v_iv (w_fd _ _ _); rw [s1.2, if_neg (fun e => absurd e.2 (by decide))]
  have fe_0_9_1 : w_fi ws (n_v vs 0) 9 = w_fi w1 (n_v vs 0) 9 := by show v_iv (w_fd _ _ _) = v_iv (w_fd _ _ _); rw [s1.2, if_neg (fun e => absurd e.2 (by decide))]
  have kz_0_5 := fdq_28 hD hth r0
  have kz_0_6 := fdq_29 hD hth r0
  have kz_0_8 := fdq_31 hD hth r0
  have kz_0_9 := fdq_27 hD hth r0
  have nf0 : fc_1 PRD (20, [2, 2], [30, 0, 1, 1, 8, -1, 1, 6]) ws (vs) := by
    refine ⟨nf_in hl rfl, sgq_204 ?_⟩
    · show 1 * w_fi ws (n_v vs 2) 8 + ((-1) * w_fi ws (n_v vs 2) 6 + 0) ≤ 0
      rw [q2]
      exact vc_Re_advance_21_0 (v_iv (n_v vs 4)) (v_iv (n_v vs 10)) (w_fi ws (n_v vs 0) 9) (w_fi w1 (n_v vs 0) 6) (w_fi w1 (n_v vs 0) 5) (w_fi w1 (n_v vs 0) 9) (w_fi w1 (n_v vs 0) 8) (w_fi ws (n_v vs 0) 5) (w_fi ws (n_v vs 0) 6) (w_fi ws (n_v vs 0) 8) k4 k10 d0 g5 f10 fe_0_5_1 fe_0_6_1 fe_0_8_1 fe_0_9_1 kz_0_5 kz_0_6 kz_0_8 kz_0_9
  refine ⟨(fun _ h => (by cases h)), [], trivial, ?_, (fun _ h => (by cases h))⟩
  rw [List.append_nil]
  exact List.forall_mem_cons.mpr ⟨⟨show (20 : Nat) < 100 from by decide, nf0⟩, (fun _ h => (by cases h))⟩
set_option maxHeartbeats 4000000 in
theorem vc_Re_advance_22_0 (x1 : Int) (x10 : Int) (begin_0 : Int) (next_0 : Int) (begin_1 : Int) (next_1 : Int) (end_1 : Int) (end_0 : Int) (kind_0 : Int) (number_0 : Int) (k1 : (-2147483648) ≤ x1 ∧ x1 ≤ 1000000) (k10 : 1 ≤ x10 ∧ x10 ≤ 1) (fe_0_5_1 : end_0 = end_1) (fe_0_6_1 : next_0 = next_1) (fe_0_7_1 : kind_0 = x10) (fe_0_8_1 : begin_0 = begin_1) (kz_0_5 : 0 ≤ end_0 ∧ end_0 ≤ 2000) (kz_0_6 : 0 ≤ next_0 ∧ next_0 ≤ 2000) (kz_0_7 : (-128) ≤ kind_0 ∧ kind_0 ≤ 127) (kz_0_8 : 0 ≤ begin_0 ∧ begin_0 ≤ 2000) (kz_0_9 : (-2147483648) ≤ number_0 ∧ number_0 ≤ 1000000) : (1 * kind_0 + 0 ≤ 3) ∨ (1 * number_0 + ((-1) * x1 + 0) ≤ 0) := by
  subst fe_0_5_1
  subst fe_0_6_1
  subst fe_0_8_1
  first | assumption | omega | grind
set_option maxHeartbeats 4000000 in
theorem vc_Re_advance_22_1 (x1 : Int) (x10 : Int) (begin_0 : Int) (next_0 : Int) (begin_1 : Int) (next_1 : Int) (end_1 : Int) (end_0 : Int) (kind_0 : Int) (number_0 : Int) (k1 : (-2147483648) ≤ x1 ∧ x1 ≤ 1000000) (k10 : 1 ≤ x10 ∧ x10 ≤ 1) (fe_0_5_1 : end_0 = end_1) (fe_0_6_1 : next_0 = next_1) (fe_0_7_1 : kind_0 = x10) (fe_0_8_1 : begin_0 = begin_1) (kz_0_5 : 0 ≤ end_0 ∧ end_0 ≤ 2000) (kz_0_6 : 0 ≤ next_0 ∧ next_0 ≤ 2000) (kz_0_7 : (-128) ≤ kind_0 ∧ kind_0 ≤ 127) (kz_0_8 : 0 ≤ begin_0 ∧ begin_0 ≤ 2000) (kz_0_9 : (-2147483648) ≤ number_0 ∧ number_0 ≤ 1000000) : (1 * kind_0 + 0 ≤ 3) ∨ ((-1) * number_0 + (1 * x1 + 0) ≤ 0) := by
  subst fe_0_5_1
  subst fe_0_6_1
  subst fe_0_8_1
  first | assumption | omega | grind
set_option maxHeartbeats 4000000 in
theorem vc_Re_advance_22_2 (x5 : Int) (x7 : Int) (x8 : Int) (x10 : Int) (begin_0 : Int) (next_0 : Int) (begin_1 : Int) (next_1 : Int) (end_1 : Int) (end_0 : Int) (kind_0 : Int) (k5 : 4 ≤ x5 ∧ x5 ≤ 2000) (k7 : 0 ≤ x7 ∧ x7 ≤ 2000) (k8 : 4 ≤ x8 ∧ x8 ≤ 2000) (k10 : 1 ≤ x10 ∧ x10 ≤ 1) (f4 : x8 = x5 - x7) (g5 : x7 = begin_1) (g6 : x5 = next_1) (fe_0_5_1 : end_0 = end_1) (fe_0_6_1 : next_0 = next_1) (fe_0_7_1 : kind_0 = x10) (fe_0_8_1 : begin_0 = begin_1) (kz_0_5 : 0 ≤ end_0 ∧ end_0 ≤ 2000) (kz_0_6 : 0 ≤ next_0 ∧ next_0 ≤ 2000) (kz_0_7 : (-128) ≤ kind_0 ∧ kind_0 ≤ 127) (kz_0_8 : 0 ≤ begin_0 ∧ begin_0 ≤ 2000) : ((-1) * kind_0 + 0 ≤ (-3)) ∨ (1 * next_0 + ((-1) * begin_0 + (2000 * kind_0 + 0)) ≤ 4008) := by
  subst fe_0_5_1
  subst fe_0_6_1
  subst fe_0_8_1
  first | assumption | omega | grind
set_option maxHeartbeats 4000000 in
theorem vc_Re_advance_22_3 (begin_0 : Int) (next_0 : Int) (begin_1 : Int) (next_1 : Int) (end_1 : Int) (end_0 : Int) (f9 : 1 * begin_1 + ((-1) * next_1 + 0) ≤ 0) (fe_0_5_1 : end_0 = end_1) (fe_0_6_1 : next_0 = next_1) (fe_0_8_1 : begin_0 = begin_1) (kz_0_5 : 0 ≤ end_0 ∧ end_0 ≤ 2000) (kz_0_6 : 0 ≤ next_0 ∧ next_0 ≤ 2000) (kz_0_8 : 0 ≤ begin_0 ∧ begin_0 ≤ 2000) : 1 * begin_0 + ((-1) * next_0 + 0) ≤ 0 := by
  subst fe_0_5_1
  subst fe_0_6_1
  subst fe_0_8_1
  first | assumption | omega | grind
def o_Re_advance_22 : or_T := (290, 11, [(0, (2, 0, 0, [8])), (1, (0, -2147483648, 1000000, [])), (2, (2, 0, 0, [8])), (5, (0, 4, 2000, [])), (6, (0, 0, 2000, [])), (7, (0, 0, 2000, [])), (8, (0, 4, 2000, [])), (9, (0, 3, 3, [])), (10, (0, 1, 1, []))], [(20, [2, 2], [30, 0, 1, 1, 8, -1, 1, 6]), (24, [0, 2], []), (101, [2, 10], [7]), (7, [8, 9], [4]), (2, [8, 5, 7], []), (9, [7, 2], [8]), (9, [5, 2], [6]), (7, [5, 6], [3]), (9, [6, 2], [5]), (20, [2, 2], [30, 0, 1, 1, 8, -1, 1, 6])], [], [], [(20, [0, 0, 1], [31, 1, 3, 1, 1, 7, 0, 1, 1, 9, -1, 0, 0]), (20, [0, 0, 1], [31, 1, 3, 1, 1, 7, 0, -1, 1, 9, 1, 0, 0]), (20, [0, 0, 0, 0], [31, 1, -3, -1, 1, 7, 4008, 1, 1, 6, -1, 1, 8, 2000, 1, 7]), (20, [0, 0], [30, 0, 1, 1, 8, -1, 1, 6])], [], [(8, 5, -2000, 0), (5, 6, 0, 4294967296)])
theorem oo_Re_advance_22 {kA : Nat → ClassId} : or_ok PRD kA GG o_Re_advance_22 := by
  refine or_mk fun A ta ws vs hD hth hl => ?_
  intro t0 r0 t1 k1 t2 r2 t5 k5 t6 k6 t7 k7 t8 k8 t9 k9 t10 k10 d0 d1 f0 f1 ta1 w1 le1 s1 f3 f4 f5 f6 f7 f8 f9
  replace f1 := shm_5 f1
  have s1 : (∀ b j, w_el ws b j = w_el w1 b j) ∧ ∀ b j, w_fd ws b j = if b = v_ad (n_v vs 2) ∧ j = 7 then n_v vs 10 else w_fd w1 b j := s1.2
  replace f5 := shm_143 f5
  replace f6 := shm_110 f6
  replace f9 := shm_204 f9
  have q2 : n_v vs 2 = n_v vs 0 := f1.symm
  rw [q2] at s1
  simp only [q2] at f5 f6 f9
  have g5 : v_iv (n_v vs 7) = w_fi w1 (n_v vs 0) 8 := congrArg v_iv f5
  have g6 : v_iv (n_v vs 5) = w_fi w1 (n_v vs 0) 6 := congrArg v_iv f6
  have fe_0_5_1 : w_fi ws (n_v vs 0) 5 = w_fi w1 (n_v vs 0) 5 := by show v_iv (w_fd _ _ _) = v_iv (w_fd _ _ _); rw [s1.2, if_neg (fun e => absurd e.2 (by decide))]
  have fe_0_6_1 : w_fi ws (n_v vs 0) 6 = w_fi w1 (n_v vs 0) 6 := by show v_iv (w_fd _ _ _) = v_iv (w_fd _ _ _); rw [s1.2, if_neg (fun e => absurd e.2 (by decide))]
  have fe_0_7_1 : w_fi ws (n_v vs 0) 7 = v_iv (n_v vs 10) := by show v_iv (w_fd _ _ _) = _; rw [s1.2, if_pos ⟨rfl, rfl⟩]
  have fe_0_8_1 : w_fi ws (n_v vs 0) 8 = w_fi w1 (n_v vs 0) 8 := by show v_iv (w_fd _ _ _) = v_iv (w_fd _ _ _); rw [s1.2, if_neg (fun e => absurd e.2 (by decide))]
  have kz_0_5 := fdq_28 hD hth r0
  have kz_0_6 := fdq_29 hD hth r0
  have kz_0_7 := fdq_30 hD hth r0
  have kz_0_8 := fdq_31 hD hth r0
  have kz_0_9 := fdq_27 hD hth r0
  have nf0 : fc_1 PRD (20, [0, 0, 1], [31, 1, 3, 1, 1, 7, 0, 1, 1, 9, -1, 0, 0]) ws (vs) := ⟨nf_in hl rfl, sgq_201 (vc_Re_advance_22_0 (v_iv (n_v vs 1)) (v_iv (n_v vs 10)) (w_fi ws (n_v vs 0) 8) (w_fi ws (n_v vs 0) 6) (w_fi w1 (n_v vs 0) 8) (w_fi w1 (n_v vs 0) 6) (w_fi w1 (n_v vs 0) 5) (w_fi ws (n_v vs 0) 5) (w_fi ws (n_v vs 0) 7) (w_fi ws (n_v vs 0) 9) k1 k10 fe_0_5_1 fe_0_6_1 fe_0_7_1 fe_0_8_1 kz_0_5 kz_0_6 kz_0_7 kz_0_8 kz_0_9)⟩
  have nf1 : fc_1 PRD (20, [0, 0, 1], [31, 1, 3, 1, 1, 7, 0, -1, 1, 9, 1, 0, 0]) ws (vs) := ⟨nf_in hl rfl, sgq_202 (vc_Re_advance_22_1 (v_iv (n_v vs 1)) (v_iv (n_v vs 10)) (w_fi ws (n_v vs 0) 8) (w_fi ws (n_v vs 0) 6) (w_fi w1 (n_v vs 0) 8) (w_fi w1 (n_v vs 0) 6) (w_fi w1 (n_v vs 0) 5) (w_fi ws (n_v vs 0) 5) (w_fi ws (n_v vs 0) 7) (w_fi ws (n_v vs 0) 9) k1 k10 fe_0_5_1 fe_0_6_1 fe_0_7_1 fe_0_8_1 kz_0_5 kz_0_6 kz_0_7 kz_0_8 kz_0_9)⟩
  have nf2 : fc_1 PRD (20, [0, 0, 0, 0], [31, 1, -3, -1, 1, 7, 4008, 1, 1, 6, -1, 1, 8, 2000, 1, 7]) ws (vs) := ⟨nf_in hl rfl, sgq_203 (vc_Re_advance_22_2 (v_iv (n_v vs 5)) (v_iv (n_v vs 7)) (v_iv (n_v vs 8)) (v_iv (n_v vs 10)) (w_fi ws (n_v vs 0) 8) (w_fi ws (n_v vs 0) 6) (w_fi w1 (n_v vs 0) 8) (w_fi w1 (n_v vs 0) 6) (w_fi w1 (n_v vs 0) 5) (w_fi ws (n_v vs 0) 5) (w_fi ws (n_v vs 0) 7) k5 k7 k8 k10 (shm_14 f4) g5 g6 fe_0_5_1 fe_0_6_1 fe_0_7_1 fe_0_8_1 kz_0_5 kz_0_6 kz_0_7 kz_0_8)⟩
  have nf3 : fc_1 PRD (20, [0, 0], [30, 0, 1, 1, 8, -1, 1, 6]) ws (vs) := ⟨nf_in hl rfl, sgq_204 (vc_Re_advance_22_3 (w_fi ws (n_v vs 0) 8) (w_fi ws (n_v vs 0) 6) (w_fi w1 (n_v vs 0) 8) (w_fi w1 (n_v vs 0) 6) (w_fi w1 (n_v vs 0) 5) (w_fi ws (n_v vs 0) 5) f9 fe_0_5_1 fe_0_6_1 fe_0_8_1 kz_0_5 kz_0_6 kz_0_8)⟩
  refine ⟨(fun _ h => (by cases h)), [], trivial, ?_, (fun _ h => (by cases h))⟩
  rw [List.append_nil]
  exact List.forall_mem_cons.mpr ⟨⟨show (20 : Nat) < 100 from by decide, nf0⟩, List.forall_mem_cons.mpr ⟨⟨show (20 : Nat) < 100 from by decide, nf1⟩, List.forall_mem_cons.mpr ⟨⟨show (20 : Nat) < 100 from by decide, nf2⟩, List.forall_mem_cons.mpr ⟨⟨show (20 : Nat) < 100 from by decide, nf3⟩, (fun _ h => (by cases h))⟩⟩⟩⟩
set_option maxHeartbeats 4000000 in
theorem vc_Re_advance_23_0 (x1 : Int) (x10 : Int) (begin_0 : Int) (next_0 : Int) (begin_1 : Int) (next_1 : Int) (end_1 : Int) (end_0 : Int) (kind_0 : Int) (number_0 : Int) (k1 : (-2147483648) ≤ x1 ∧ x1 ≤ 1000000) (k10 : 3 ≤ x10 ∧ x10 ≤ 3) (fe_0_5_1 : end_0 = end_1) (fe_0_6_1 : next_0 = next_1) (fe_0_7_1 : kind_0 = x10) (fe_0_8_1 : begin_0 = begin_1) (kz_0_5 : 0 ≤ end_0 ∧ end_0 ≤ 2000) (kz_0_6 : 0 ≤ next_0 ∧ next_0 ≤ 2000) (kz_0_7 : (-128) ≤ kind_0 ∧ kind_0 ≤ 127) (kz_0_8 : 0 ≤ begin_0 ∧ begin_0 ≤ 2000) (kz_0_9 : (-2147483648) ≤ number_0 ∧ number_0 ≤ 1000000) : (1 * kind_0 + 0 ≤ 3) ∨ (1 * number_0 + ((-1) * x1 + 0) ≤ 0) := by
  subst fe_0_5_1
  subst fe_0_6_1
  subst fe_0_8_1
  first | assumption | omega | grind
set_option maxHeartbeats 4000000 in
theorem vc_Re_advance_23_1 (x1 : Int) (x10 : Int) (begin_0 : Int) (next_0 : Int) (begin_1 : Int) (next_1 : Int) (end_1 : Int) (end_0 : Int) (kind_0 : Int) (number_0 : Int) (k1 : (-2147483648) ≤ x1 ∧ x1 ≤ 1000000) (k10 : 3 ≤ x10 ∧ x10 ≤ 3) (fe_0_5_1 : end_0 = end_1) (fe_0_6_1 : next_0 = next_1) (fe_0_7_1 : kind_0 = x10) (fe_0_8_1 : begin_0 = begin_1) (kz_0_5 : 0 ≤ end_0 ∧ end_0 ≤ 2000) (kz_0_6 : 0 ≤ next_0 ∧ next_0 ≤ 2000) (kz_0_7 : (-128) ≤ kind_0 ∧ kind_0 ≤ 127) (kz_0_8 : 0 ≤ begin_0 ∧ begin_0 ≤ 2000) (kz_0_9 : (-2147483648) ≤ number_0 ∧ number_0 ≤ 1000000) : (1 * kind_0 + 0 ≤ 3) ∨ ((-1) * number_0 + (1 * x1 + 0) ≤ 0) := by
  subst fe_0_5_1
  subst fe_0_6_1
  subst fe_0_8_1
  first | assumption | omega | grind
set_option maxHeartbeats 4000000 in
theorem vc_Re_advance_23_2 (x10 : Int) (begin_0 : Int) (next_0 : Int) (begin_1 : Int) (next_1 : Int) (end_1 : Int) (end_0 : Int) (kind_0 : Int) (k10 : 3 ≤ x10 ∧ x10 ≤ 3) (fe_0_5_1 : end_0 = end_1) (fe_0_6_1 : next_0 = next_1) (fe_0_7_1 : kind_0 = x10) (fe_0_8_1 : begin_0 = begin_1) (kz_0_5 : 0 ≤ end_0 ∧ end_0 ≤ 2000) (kz_0_6 : 0 ≤ next_0 ∧ next_0 ≤ 2000) (kz_0_7 : (-128) ≤ kind_0 ∧ kind_0 ≤ 127) (kz_0_8 : 0 ≤ begin_0 ∧ begin_0 ≤ 2000) : ((-1) * kind_0 + 0 ≤ (-3)) ∨ (1 * next_0 + ((-1) * begin_0 + (2000 * kind_0 + 0)) ≤ 4008) := by
  subst fe_0_5_1
  subst fe_0_6_1
  subst fe_0_8_1
  first | assumption | omega | grind
set_option maxHeartbeats 4000000 in
theorem vc_Re_advance_23_3 (begin_0 : Int) (next_0 : Int) (begin_1 : Int) (next_1 : Int) (end_1 : Int) (end_0 : Int) (f9 : 1 * begin_1 + ((-1) * next_1 + 0) ≤ 0) (fe_0_5_1 : end_0 = end_1) (fe_0_6_1 : next_0 = next_1) (fe_0_8_1 : begin_0 = begin_1) (kz_0_5 : 0 ≤ end_0 ∧ end_0 ≤ 2000) (kz_0_6 : 0 ≤ next_0 ∧ next_0 ≤ 2000) (kz_0_8 : 0 ≤ begin_0 ∧ begin_0 ≤ 2000) : 1 * begin_0 + ((-1) * next_0 + 0) ≤ 0 := by
  subst fe_0_5_1
  subst fe_0_6_1
  subst fe_0_8_1
  first | assumption | omega | grind
def o_Re_advance_23 : or_T := (290, 11, [(0, (2, 0, 0, [8])), (1, (0, -2147483648, 1000000, [])), (2, (2, 0, 0, [8])), (5, (0, 0, 2000, [])), (6, (0, 0, 2000, [])), (7, (0, 0, 2000, [])), (8, (0, -2000, 3, [])), (9, (0, 3, 3, [])), (10, (0, 3, 3, []))], [(20, [2, 2], [30, 0, 1, 1, 8, -1, 1, 6]), (24, [0, 2], []), (101, [2, 10], [7]), (7, [8, 9], [5]), (2, [8, 5, 7], []), (9, [7, 2], [8]), (9, [5, 2], [6]), (7, [5, 6], [3]), (9, [6, 2], [5]), (20, [2, 2], [30, 0, 1, 1, 8, -1, 1, 6])], [], [], [(20, [0, 0, 1], [31, 1, 3, 1, 1, 7, 0, 1, 1, 9, -1, 0, 0]), (20, [0, 0, 1], [31, 1, 3, 1, 1, 7, 0, -1, 1, 9, 1, 0, 0]), (20, [0, 0, 0, 0], [31, 1, -3, -1, 1, 7, 4008, 1, 1, 6, -1, 1, 8, 2000, 1, 7]), (20, [0, 0], [30, 0, 1, 1, 8, -1, 1, 6])], [], [(8, 5, -2000, 0), (8, 6, -2000, 4294967296), (5, 6, 0, 4294967296)])
theorem oo_Re_advance_23 {kA : Nat → ClassId} : or_ok PRD kA GG o_Re_advance_23 := by
  refine or_mk fun A ta ws vs hD hth hl => ?_
  intro t0 r0 t1 k1 t2 r2 t5 k5 t6 k6 t7 k7 t8 k8 t9 k9 t10 k10 d0 d1 d2 f0 f1 ta1 w1 le1 s1 f3 f4 f5 f6 f7 f8 f9
  replace f1 := shm_5 f1
  have s1 : (∀ b j, w_el ws b j = w_el w1 b j) ∧ ∀ b j, w_fd ws b j = if b = v_ad (n_v vs 2) ∧ j = 7 then n_v vs 10 else w_fd w1 b j := s1.2
  replace f9 := shm_204 f9
  have q2 : n_v vs 2 = n_v vs 0 := f1.symm
  rw [q2] at s1
  simp only [q2] at f9
  have fe_0_5_1 : w_fi ws (n_v vs 0) 5 = w_fi w1 (n_v vs 0) 5 := by show v_iv (w_fd _ _ _) = v_iv (w_fd _ _ _); rw [s1.2, if_neg (fun e => absurd e.2 (by decide))]
  have fe_0_6_1 : w_fi ws (n_v vs 0) 6 = w_fi w1 (n_v vs 0) 6 := by show v_iv (w_fd _ _ _) = v_iv (w_fd _ _ _); rw [s1.2, if_neg (fun e => absurd e.2 (by decide))]
  have fe_0_7_1 : w_fi ws (n_v vs 0) 7 = v_iv (n_v vs 10) := by show v_iv (w_fd _ _ _) = _; rw [s1.2, if_pos ⟨rfl, rfl⟩]
  have fe_0_8_1 : w_fi ws (n_v vs 0) 8 = w_fi w1 (n_v vs 0) 8 := by show v_iv (w_fd _ _ _) = v_iv (w_fd _ _ _); rw [s1.2, if_neg (fun e => absurd e.2 (by decide))]
  have kz_0_5 := fdq_28 hD hth r0
  have kz_0_6 := fdq_29 hD hth r0
  have kz_0_7 := fdq_30 hD hth r0
  have kz_0_8 := fdq_31 hD hth r0
  have kz_0_9 := fdq_27 hD hth r0
  have nf0 : fc_1 PRD (20, [0, 0, 1], [31, 1, 3, 1, 1, 7, 0, 1, 1, 9, -1, 0, 0]) ws (vs) := ⟨nf_in hl rfl, sgq_201 (vc_Re_advance_23_0 (v_iv (n_v vs 1)) (v_iv (n_v vs 10)) (w_fi ws (n_v vs 0) 8) (w_fi ws (n_v vs 0) 6) (w_fi w1 (n_v vs 0) 8) (w_fi w1 (n_v vs 0) 6) (w_fi w1 (n_v vs 0) 5) (w_fi ws (n_v vs 0) 5) (w_fi ws (n_v vs 0) 7) (w_fi ws (n_v vs 0) 9) k1 k10 fe_0_5_1 fe_0_6_1 fe_0_7_1 fe_0_8_1 kz_0_5 kz_0_6 kz_0_7 kz_0_8 kz_0_9)⟩
  have nf1 : fc_1 PRD (20, [0, 0, 1], [31, 1, 3, 1, 1, 7, 0, -1, 1, 9, 1, 0, 0]) ws (vs) := ⟨nf_in hl rfl, sgq_202 (vc_Re_advance_23_1 (v_iv (n_v vs 1)) (v_iv (n_v vs 10)) (w_fi ws (n_v vs 0) 8) (w_fi ws (n_v vs 0) 6) (w_fi w1 (n_v vs 0) 8) (w_fi w1 (n_v vs 0) 6) (w_fi w1 (n_v vs 0) 5) (w_fi ws (n_v vs 0) 5) (w_fi ws (n_v vs 0) 7) (w_fi ws (n_v vs 0) 9) k1 k10 fe_0_5_1 fe_0_6_1 fe_0_7_1 fe_0_8_1 kz_0_5 kz_0_6 kz_0_7 kz_0_8 kz_0_9)⟩
  have nf2 : fc_1 PRD (20, [0, 0, 0, 0], [31, 1, -3, -1, 1, 7, 4008, 1, 1, 6, -1, 1, 8, 2000, 1, 7]) ws (vs) := ⟨nf_in hl rfl, sgq_203 (vc_Re_advance_23_2 (v_iv (n_v vs 10)) (w_fi ws (n_v vs 0) 8) (w_fi ws (n_v vs 0) 6) (w_fi w1 (n_v vs 0) 8) (w_fi w1 (n_v vs 0) 6) (w_fi w1 (n_v vs 0) 5) (w_fi ws (n_v vs 0) 5) (w_fi ws (n_v vs 0) 7) k10 fe_0_5_1 fe_0_6_1 fe_0_7_1 fe_0_8_1 kz_0_5 kz_0_6 kz_0_7 kz_0_8)⟩
  have nf3 : fc_1 PRD (20, [0, 0], [30, 0, 1, 1, 8, -1, 1, 6]) ws (vs) := ⟨nf_in hl rfl, sgq_204 (vc_Re_advance_23_3 (w_fi ws (n_v vs 0) 8) (w_fi ws (n_v vs 0) 6) (w_fi w1 (n_v vs 0) 8) (w_fi w1 (n_v vs 0) 6) (w_fi w1 (n_v vs 0) 5) (w_fi ws (n_v vs 0) 5) f9 fe_0_5_1 fe_0_6_1 fe_0_8_1 kz_0_5 kz_0_6 kz_0_8)⟩
  refine ⟨(fun _ h => (by cases h)), [], trivial, ?_, (fun _ h => (by cases h))⟩
  rw [List.append_nil]
  exact List.forall_mem_cons.mpr ⟨⟨show (20 : Nat) < 100 from by decide, nf0⟩, List.forall_mem_cons.mpr ⟨⟨show (20 : Nat) < 100 from by decide, nf1⟩, List.forall_mem_cons.mpr ⟨⟨show (20 : Nat) < 100 from by decide, nf2⟩, List.forall_mem_cons.mpr ⟨⟨show (20 : Nat) < 100 from by decide, nf3⟩, (fun _ h => (by cases h))⟩⟩⟩⟩
set_option maxHeartbeats 4000000 in
theorem vc_Re_advance_24_0 (x1 : Int) (x13 : Int) (begin_0 : Int) (next_0 : Int) (begin_1 : Int) (next_1 : Int) (end_1 : Int) (end_0 : Int) (kind_0 : Int) (number_0 : Int) (k1 : (-2147483648) ≤ x1 ∧ x1 ≤ 1000000) (k13 : 1 ≤ x13 ∧ x13 ≤ 1) (fe_0_5_1 : end_0 = end_1) (fe_0_6_1 : next_0 = next_1) (fe_0_7_1 : kind_0 = x13) (fe_0_8_1 : begin_0 = begin_1) (kz_0_5 : 0 ≤ end_0 ∧ end_0 ≤ 2000) (kz_0_6 : 0 ≤ next_0 ∧ next_0 ≤ 2000) (kz_0_7 : (-128) ≤ kind_0 ∧ kind_0 ≤ 127) (kz_0_8 : 0 ≤ begin_0 ∧ begin_0 ≤ 2000) (kz_0_9 : (-2147483648) ≤ number_0 ∧ number_0 ≤ 1000000) : (1 * kind_0 + 0 ≤ 3) ∨ (1 * number_0 + ((-1) * x1 + 0) ≤ 0) := by
  subst fe_0_5_1
  subst fe_0_6_1
  subst fe_0_8_1
  first | assumption | omega | grind
set_option maxHeartbeats 4000000 in
theorem vc_Re_advance_24_1 (x1 : Int) (x13 : Int) (begin_0 : Int) (next_0 : Int) (begin_1 : Int) (next_1 : Int) (end_1 : Int) (end_0 : Int) (kind_0 : Int) (number_0 : Int) (k1 : (-2147483648) ≤ x1 ∧ x1 ≤ 1000000) (k13 : 1 ≤ x13 ∧ x13 ≤ 1) (fe_0_5_1 : end_0 = end_1) (fe_0_6_1 : next_0 = next_1) (fe_0_7_1 : kind_0 = x13) (fe_0_8_1 : begin_0 = begin_1) (kz_0_5 : 0 ≤ end_0 ∧ end_0 ≤ 2000) (kz_0_6 : 0 ≤ next_0 ∧ next_0 ≤ 2000) (kz_0_7 : (-128) ≤ kind_0 ∧ kind_0 ≤ 127) (kz_0_8 : 0 ≤ begin_0 ∧ begin_0 ≤ 2000) (kz_0_9 : (-2147483648) ≤ number_0 ∧ number_0 ≤ 1000000) : (1 * kind_0 + 0 ≤ 3) ∨ ((-1) * number_0 + (1 * x1 + 0) ≤ 0) := by
  subst fe_0_5_1
  subst fe_0_6_1
  subst fe_0_8_1
  first | assumption | omega | grind
set_option maxHeartbeats 4000000 in
theorem vc_Re_advance_24_2 (x5 : Int) (x10 : Int) (x11 : Int) (x13 : Int) (begin_0 : Int) (next_0 : Int) (begin_1 : Int) (next_1 : Int) (end_1 : Int) (end_0 : Int) (kind_0 : Int) (k5 : 4 ≤ x5 ∧ x5 ≤ 1999) (k10 : 0 ≤ x10 ∧ x10 ≤ 2000) (k11 : 4 ≤ x11 ∧ x11 ≤ 1999) (k13 : 1 ≤ x13 ∧ x13 ≤ 1) (f4 : x11 = x5 - x10) (g5 : x10 = begin_1) (g6 : x5 = next_1) (fe_0_5_1 : end_0 = end_1) (fe_0_6_1 : next_0 = next_1) (fe_0_7_1 : kind_0 = x13) (fe_0_8_1 : begin_0 = begin_1) (kz_0_5 : 0 ≤ end_0 ∧ end_0 ≤ 2000) (kz_0_6 : 0 ≤ next_0 ∧ next_0 ≤ 2000) (kz_0_7 : (-128) ≤ kind_0 ∧ kind_0 ≤ 127) (kz_0_8 : 0 ≤ begin_0 ∧ begin_0 ≤ 2000) : ((-1) * kind_0 + 0 ≤ (-3)) ∨ (1 * next_0 + ((-1) * begin_0 + (2000 * kind_0 + 0)) ≤ 4008) := by
  subst fe_0_5_1
  subst fe_0_6_1
  subst fe_0_8_1
  first | assumption | omega | grind
set_option maxHeartbeats 4000000 in
theorem vc_Re_advance_24_3 (begin_0 : Int) (next_0 : Int) (begin_1 : Int) (next_1 : Int) (end_1 : Int) (end_0 : Int) (f9 : 1 * begin_1 + ((-1) * next_1 + 0) ≤ 0) (fe_0_5_1 : end_0 = end_1) (fe_0_6_1 : next_0 = next_1) (fe_0_8_1 : begin_0 = begin_1) (kz_0_5 : 0 ≤ end_0 ∧ end_0 ≤ 2000) (kz_0_6 : 0 ≤ next_0 ∧ next_0 ≤ 2000) (kz_0_8 : 0 ≤ begin_0 ∧ begin_0 ≤ 2000) : 1 * begin_0 + ((-1) * next_0 + 0) ≤ 0 := by
  subst fe_0_5_1
  subst fe_0_6_1
  subst fe_0_8_1
  first | assumption | omega | grind
def o_Re_advance_24 : or_T := (290, 14, [(0, (2, 0, 0, [8])), (1, (0, -2147483648, 1000000, [])), (2, (2, 0, 0, [8])), (5, (0, 4, 1999, [])), (6, (0, 5, 2000, [])), (10, (0, 0, 2000, [])), (11, (0, 4, 1999, [])), (12, (0, 3, 3, [])), (13, (0, 1, 1, []))], [(20, [2, 2], [30, 0, 1, 1, 8, -1, 1, 6]), (24, [0, 2], []), (101, [2, 13], [7]), (7, [11, 12], [4]), (2, [11, 5, 10], []), (9, [10, 2], [8]), (9, [5, 2], [6]), (7, [5, 6], [2]), (9, [6, 2], [5]), (20, [2, 2], [30, 0, 1, 1, 8, -1, 1, 6])], [], [], [(20, [0, 0, 1], [31, 1, 3, 1, 1, 7, 0, 1, 1, 9, -1, 0, 0]), (20, [0, 0, 1], [31, 1, 3, 1, 1, 7, 0, -1, 1, 9, 1, 0, 0]), (20, [0, 0, 0, 0], [31, 1, -3, -1, 1, 7, 4008, 1, 1, 6, -1, 1, 8, 2000, 1, 7]), (20, [0, 0], [30, 0, 1, 1, 8, -1, 1, 6])], [], [(11, 5, -2000, 0), (11, 6, -4294967296, -1), (5, 6, -4294967296, -1)])
theorem oo_Re_advance_24 {kA : Nat → ClassId} : or_ok PRD kA GG o_Re_advance_24 := by
  refine or_mk fun A ta ws vs hD hth hl => ?_
  intro t0 r0 t1 k1 t2 r2 t5 k5 t6 k6 t10 k10 t11 k11 t12 k12 t13 k13 d0 d1 d2 f0 f1 ta1 w1 le1 s1 f3 f4 f5 f6 f7 f8 f9
  replace f1 := shm_5 f1
  have s1 : (∀ b j, w_el ws b j = w_el w1 b j) ∧ ∀ b j, w_fd ws b j = if b = v_ad (n_v vs 2) ∧ j = 7 then n_v vs 13 else w_fd w1 b j := s1.2
  replace f5 := shm_143 f5
  replace f6 := shm_110 f6
  replace f9 := shm_204 f9
  have q2 : n_v vs 2 = n_v vs 0 := f1.symm
  rw [q2] at s1
  simp only [q2] at f5 f6 f9
  have g5 : v_iv (n_v vs 10) = w_fi w1 (n_v vs 0) 8 := congrArg v_iv f5
  have g6 : v_iv (n_v vs 5) = w_fi w1 (n_v vs 0) 6 := congrArg v_iv f6
  have fe_0_5_1 : w_fi ws (n_v vs 0) 5 = w_fi w1 (n_v vs 0) 5 := by show v_iv (w_fd _ _ _) = v_iv (w_fd _ _ _); rw [s1.2, if_neg (fun e => absurd e.2 (by decide))]
  have fe_0_6_1 : w_fi ws (n_v vs 0) 6 = w_fi w1 (n_v vs 0) 6 := by show v_iv (w_fd _ _ _) = v_iv (w_fd _ _ _); rw [s1.2, if_neg (fun e => absurd e.2 (by decide))]
  have fe_0_7_1 : w_fi ws (n_v vs 0) 7 = v_iv (n_v vs 13) := by show v_iv (w_fd _ _ _) = _; rw [s1.2, if_pos ⟨rfl, rfl⟩]
  have fe_0_8_1 : w_fi ws (n_v vs 0) 8 = w_fi w1 (n_v vs 0) 8 := by show v_iv (w_fd _ _ _) = v_iv (w_fd _ _ _); rw [s1.2, if_neg (fun e => absurd e.2 (by decide))]
  have kz_0_5 := fdq_28 hD hth r0
  have kz_0_6 := fdq_29 hD hth r0
  have kz_0_7 := fdq_30 hD hth r0
  have kz_0_8 := fdq_31 hD hth r0
  have kz_0_9 := fdq_27 hD hth r0
  have nf0 : fc_1 PRD (20, [0, 0, 1], [31, 1, 3, 1, 1, 7, 0, 1, 1, 9, -1, 0, 0]) ws (vs) := ⟨nf_in hl rfl, sgq_201 (vc_Re_advance_24_0 (v_iv (n_v vs 1)) (v_iv (n_v vs 13)) (w_fi ws (n_v vs 0) 8) (w_fi ws (n_v vs 0) 6) (w_fi w1 (n_v vs 0) 8) (w_fi w1 (n_v vs 0) 6) (w_fi w1 (n_v vs 0) 5) (w_fi ws (n_v vs 0) 5) (w_fi ws (n_v vs 0) 7) (w_fi ws (n_v vs 0) 9) k1 k13 fe_0_5_1 fe_0_6_1 fe_0_7_1 fe_0_8_1 kz_0_5 kz_0_6 kz_0_7 kz_0_8 kz_0_9)⟩
  have nf1 : fc_1 PRD (20, [0, 0, 1], [31, 1, 3, 1, 1, 7, 0, -1, 1, 9, 1, 0, 0]) ws (vs) := ⟨nf_in hl rfl, sgq_202 (vc_Re_advance_24_1 (v_iv (n_v vs 1)) (v_iv (n_v vs 13)) (w_fi ws (n_v vs 0) 8) (w_fi ws (n_v vs 0) 6) (w_fi w1 (n_v vs 0) 8) (w_fi w1 (n_v vs 0) 6) (w_fi w1 (n_v vs 0) 5) (w_fi ws (n_v vs 0) 5) (w_fi ws (n_v vs 0) 7) (w_fi ws (n_v vs 0) 9) k1 k13 fe_0_5_1 fe_0_6_1 fe_0_7_1 fe_0_8_1 kz_0_5 kz_0_6 kz_0_7 kz_0_8 kz_0_9)⟩
  have nf2 : fc_1 PRD (20, [0, 0, 0, 0], [31, 1, -3, -1, 1, 7, 4008, 1, 1, 6, -1, 1, 8, 2000, 1, 7]) ws (vs) := ⟨nf_in hl rfl, sgq_203 (vc_Re_advance_24_2 (v_iv (n_v vs 5)) (v_iv (n_v vs 10)) (v_iv (n_v vs 11)) (v_iv (n_v vs 13)) (w_fi ws (n_v vs 0) 8) (w_fi ws (n_v vs 0) 6) (w_fi w1 (n_v vs 0) 8) (w_fi w1 (n_v vs 0) 6) (w_fi w1 (n_v vs 0) 5) (w_fi ws (n_v vs 0) 5) (w_fi ws (n_v vs 0) 7) k5 k10 k11 k13 (shm_14 f4) g5 g6 fe_0_5_1 fe_0_6_1 fe_0_7_1 fe_0_8_1 kz_0_5 kz_0_6 kz_0_7 kz_0_8)⟩
  have nf3 : fc_1 PRD (20, [0, 0], [30, 0, 1, 1, 8, -1, 1, 6]) ws (vs) := ⟨nf_in hl rfl, sgq_204 (vc_Re_advance_24_3 (w_fi ws (n_v vs 0) 8) (w_fi ws (n_v vs 0) 6) (w_fi w1 (n_v vs 0) 8) (w_fi w1 (n_v vs 0) 6) (w_fi w1 (n_v vs 0) 5) (w_fi ws (n_v vs 0) 5) f9 fe_0_5_1 fe_0_6_1 fe_0_8_1 kz_0_5 kz_0_6 kz_0_8)⟩
  refine ⟨(fun _ h => (by cases h)), [], trivial, ?_, (fun _ h => (by cases h))⟩
  rw [List.append_nil]
  exact List.forall_mem_cons.mpr ⟨⟨show (20 : Nat) < 100 from by decide, nf0⟩, List.forall_mem_cons.mpr ⟨⟨show (20 : Nat) < 100 from by decide, nf1⟩, List.forall_mem_cons.mpr ⟨⟨show (20 : Nat) < 100 from by decide, nf2⟩, List.forall_mem_cons.mpr ⟨⟨show (20 : Nat) < 100 from by decide, nf3⟩, (fun _ h => (by cases h))⟩⟩⟩⟩
set_option maxHeartbeats 4000000 in
theorem vc_Re_advance_25_0 (x1 : Int) (x13 : Int) (begin_0 : Int) (next_0 : Int) (begin_1 : Int) (next_1 : Int) (end_1 : Int) (end_0 : Int) (kind_0 : Int) (number_0 : Int) (k1 : (-2147483648) ≤ x1 ∧ x1 ≤ 1000000) (k13 : 3 ≤ x13 ∧ x13 ≤ 3) (fe_0_5_1 : end_0 = end_1) (fe_0_6_1 : next_0 = next_1) (fe_0_7_1 : kind_0 = x13) (fe_0_8_1 : begin_0 = begin_1) (kz_0_5 : 0 ≤ end_0 ∧ end_0 ≤ 2000) (kz_0_6 : 0 ≤ next_0 ∧ next_0 ≤ 2000) (kz_0_7 : (-128) ≤ kind_0 ∧ kind_0 ≤ 127) (kz_0_8 : 0 ≤ begin_0 ∧ begin_0 ≤ 2000) (kz_0_9 : (-2147483648) ≤ number_0 ∧ number_0 ≤ 1000000) : (1 * kind_0 + 0 ≤ 3) ∨ (1 * number_0 + ((-1) * x1 + 0) ≤ 0) := by
  subst fe_0_5_1
  subst fe_0_6_1
  subst fe_0_8_1
  first | assumption | omega | grind
set_option maxHeartbeats 4000000 in
theorem vc_Re_advance_25_1 (x1 : Int) (x13 : Int) (begin_0 : Int) (next_0 : Int) (begin_1 : Int) (next_1 : Int) (end_1 : Int) (end_0 : Int) (kind_0 : Int) (number_0 : Int) (k1 : (-2147483648) ≤ x1 ∧ x1 ≤ 1000000) (k13 : 3 ≤ x13 ∧ x13 ≤ 3) (fe_0_5_1 : end_0 = end_1) (fe_0_6_1 : next_0 = next_1) (fe_0_7_1 : kind_0 = x13) (fe_0_8_1 : begin_0 = begin_1) (kz_0_5 : 0 ≤ end_0 ∧ end_0 ≤ 2000) (kz_0_6 : 0 ≤ next_0 ∧ next_0 ≤ 2000) (kz_0_7 : (-128) ≤ kind_0 ∧ kind_0 ≤ 127) (kz_0_8 : 0 ≤ begin_0 ∧ begin_0 ≤ 2000) (kz_0_9 : (-2147483648) ≤ number_0 ∧ number_0 ≤ 1000000) : (1 * kind_0 + 0 ≤ 3) ∨ ((-1) * number_0 + (1 * x1 + 0) ≤ 0) := by
  subst fe_0_5_1
  subst fe_0_6_1
  subst fe_0_8_1
  first | assumption | omega | grind
set_option maxHeartbeats 4000000 in
theorem vc_Re_advance_25_2 (x13 : Int) (begin_0 : Int) (next_0 : Int) (begin_1 : Int) (next_1 : Int) (end_1 : Int) (end_0 : Int) (kind_0 : Int) (k13 : 3 ≤ x13 ∧ x13 ≤ 3) (fe_0_5_1 : end_0 = end_1) (fe_0_6_1 : next_0 = next_1) (fe_0_7_1 : kind_0 = x13) (fe_0_8_1 : begin_0 = begin_1) (kz_0_5 : 0 ≤ end_0 ∧ end_0 ≤ 2000) (kz_0_6 : 0 ≤ next_0 ∧ next_0 ≤ 2000) (kz_0_7 : (-128) ≤ kind_0 ∧ kind_0 ≤ 127) (kz_0_8 : 0 ≤ begin_0 ∧ begin_0 ≤ 2000) : ((-1) * kind_0 + 0 ≤ (-3)) ∨ (1 * next_0 + ((-1) * begin_0 + (2000 * kind_0 + 0)) ≤ 4008) := by
  subst fe_0_5_1
  subst fe_0_6_1
  subst fe_0_8_1
  first | assumption | omega | grind
set_option maxHeartbeats 4000000 in
theorem vc_Re_advance_25_3 (begin_0 : Int) (next_0 : Int) (begin_1 : Int) (next_1 : Int) (end_1 : Int) (end_0 : Int) (f9 : 1 * begin_1 + ((-1) * next_1 + 0) ≤ 0) (fe_0_5_1 : end_0 = end_1) (fe_0_6_1 : next_0 = next_1) (fe_0_8_1 : begin_0 = begin_1) (kz_0_5 : 0 ≤ end_0 ∧ end_0 ≤ 2000) (kz_0_6 : 0 ≤ next_0 ∧ next_0 ≤ 2000) (kz_0_8 : 0 ≤ begin_0 ∧ begin_0 ≤ 2000) : 1 * begin_0 + ((-1) * next_0 + 0) ≤ 0 := by
  subst fe_0_5_1
  subst fe_0_6_1
  subst fe_0_8_1
  first | assumption | omega | grind
def o_Re_advance_25 : or_T := (290, 14, [(0, (2, 0, 0, [8])), (1, (0, -2147483648, 1000000, [])), (2, (2, 0, 0, [8])), (5, (0, 0, 1999, [])), (6, (0, 1, 2000, [])), (10, (0, 0, 2000, [])), (11, (0, -2000, 3, [])), (12, (0, 3, 3, [])), (13, (0, 3, 3, []))], [(20, [2, 2], [30, 0, 1, 1, 8, -1, 1, 6]), (24, [0, 2], []), (101, [2, 13], [7]), (7, [11, 12], [5]), (2, [11, 5, 10], []), (9, [10, 2], [8]), (9, [5, 2], [6]), (7, [5, 6], [2]), (9, [6, 2], [5]), (20, [2, 2], [30, 0, 1, 1, 8, -1, 1, 6])], [], [], [(20, [0, 0, 1], [31, 1, 3, 1, 1, 7, 0, 1, 1, 9, -1, 0, 0]), (20, [0, 0, 1], [31, 1, 3, 1, 1, 7, 0, -1, 1, 9, 1, 0, 0]), (20, [0, 0, 0, 0], [31, 1, -3, -1, 1, 7, 4008, 1, 1, 6, -1, 1, 8, 2000, 1, 7]), (20, [0, 0], [30, 0, 1, 1, 8, -1, 1, 6])], [], [(11, 5, -2000, 0), (11, 6, -4294967296, -1), (5, 6, -4294967296, -1)])
theorem oo_Re_advance_25 {kA : Nat → ClassId} : or_ok PRD kA GG o_Re_advance_25 := by
  refine or_mk fun A ta ws vs hD hth hl => ?_
  intro t0 r0 t1 k1 t2 r2 t5 k5 t6 k6 t10 k10 t11 k11 t12 k12 t13 k13 d0 d1 d2 f0 f1 ta1 w1 le1 s1 f3 f4 f5 f6 f7 f8 f9
  replace f1 := shm_5 f1
  have s1 : (∀ b j, w_el ws b j = w_el w1 b j) ∧ ∀ b j, w_fd ws b j = if b = v_ad (n_v vs 2) ∧ j = 7 then n_v vs 13 else w_fd w1 b j := s1.2
  replace f9 := shm_204 f9
  have q2 : n_v vs 2 = n_v vs 0 := f1.symm
  rw [q2] at s1
  simp only [q2] at f9
  have fe_0_5_1 : w_fi ws (n_v vs 0) 5 = w_fi w1 (n_v vs 0) 5 := by show v_iv (w_fd _ _ _) = v_iv (w_fd _ _ _); rw [s1.2, if_neg (fun e => absurd e.2 (by decide))]
  have fe_0_6_1 : w_fi ws (n_v vs 0) 6 = w_fi w1 (n_v vs 0) 6 := by show v_iv (w_fd _ _ _) = v_iv (w_fd _ _ _); rw [s1.2, if_neg (fun e => absurd e.2 (by decide))]
  have fe_0_7_1 : w_fi ws (n_v vs 0) 7 = v_iv (n_v vs 13) := by show v_iv (w_fd _ _ _) = _; rw [s1.2, if_pos ⟨rfl, rfl⟩]
  have fe_0_8_1 : w_fi ws (n_v vs 0) 8 = w_fi w1 (n_v vs 0) 8 := by show v_iv (w_fd _ _ _) = v_iv (w_fd _ _ _); rw [s1.2, if_neg (fun e => absurd e.2 (by decide))]
  have kz_0_5 := fdq_28 hD hth r0
  have kz_0_6 := fdq_29 hD hth r0
  have kz_0_7 := fdq_30 hD hth r0
  have kz_0_8 := fdq_31 hD hth r0
  have kz_0_9 := fdq_27 hD hth r0
  have nf0 : fc_1 PRD (20, [0, 0, 1], [31, 1, 3, 1, 1, 7, 0, 1, 1, 9, -1, 0, 0]) ws (vs) := ⟨nf_in hl rfl, sgq_201 (vc_Re_advance_25_0 (v_iv (n_v vs 1)) (v_iv (n_v vs 13)) (w_fi ws (n_v vs 0) 8) (w_fi ws (n_v vs 0) 6) (w_fi w1 (n_v vs 0) 8) (w_fi w1 (n_v vs 0) 6) (w_fi w1 (n_v vs 0) 5) (w_fi ws (n_v vs 0) 5) (w_fi ws (n_v vs 0) 7) (w_fi ws (n_v vs 0) 9) k1 k13 fe_0_5_1 fe_0_6_1 fe_0_7_1 fe_0_8_1 kz_0_5 kz_0_6 kz_0_7 kz_0_8 kz_0_9)⟩
  have nf1 : fc_1 PRD (20, [0, 0, 1], [31, 1, 3, 1, 1, 7, 0, -1, 1, 9, 1, 0, 0]) ws (vs) := ⟨nf_in hl rfl, sgq_202 (vc_Re_advance_25_1 (v_iv (n_v vs 1)) (v_iv (n_v vs 13)) (w_fi ws (n_v vs 0) 8) (w_fi ws (n_v vs 0) 6) (w_fi w1 (n_v vs 0) 8) (w_fi w1 (n_v vs 0) 6) (w_fi w1 (n_v vs 0) 5) (w_fi ws (n_v vs 0) 5) (w_fi ws (n_v vs 0) 7) (w_fi ws (n_v vs 0) 9) k1 k13 fe_0_5_1 fe_0_6_1 fe_0_7_1 fe_0_8_1 kz_0_5 kz_0_6 kz_0_7 kz_0_8 kz_0_9)⟩
  have nf2 : fc_1 PRD (20, [0, 0, 0, 0], [31, 1, -3, -1, 1, 7, 4008, 1, 1, 6, -1, 1, 8, 2000, 1, 7]) ws (vs) := ⟨nf_in hl rfl, sgq_203 (vc_Re_advance_25_2 (v_iv (n_v vs 13)) (w_fi ws (n_v vs 0) 8) (w_fi ws (n_v vs 0) 6) (w_fi w1 (n_v vs 0) 8) (w_fi w1 (n_v vs 0) 6) (w_fi w1 (n_v vs 0) 5) (w_fi ws (n_v vs 0) 5) (w_fi ws (n_v vs 0) 7) k13 fe_0_5_1 fe_0_6_1 fe_0_7_1 fe_0_8_1 kz_0_5 kz_0_6 kz_0_7 kz_0_8)⟩
  have nf3 : fc_1 PRD (20, [0, 0], [30, 0, 1, 1, 8, -1, 1, 6]) ws (vs) := ⟨nf_in hl rfl, sgq_204 (vc_Re_advance_25_3 (w_fi ws (n_v vs 0) 8) (w_fi ws (n_v vs 0) 6) (w_fi w1 (n_v vs 0) 8) (w_fi w1 (n_v vs 0) 6) (w_fi w1 (n_v vs 0) 5) (w_fi ws (n_v vs 0) 5) f9 fe_0_5_1 fe_0_6_1 fe_0_8_1 kz_0_5 kz_0_6 kz_0_8)⟩
  refine ⟨(fun _ h => (by cases h)), [], trivial, ?_, (fun _ h => (by cases h))⟩
  rw [List.append_nil]
  exact List.forall_mem_cons.mpr ⟨⟨show (20 : Nat) < 100 from by decide, nf0⟩, List.forall_mem_cons.mpr ⟨⟨show (20 : Nat) < 100 from by decide, nf1⟩, List.forall_mem_cons.mpr ⟨⟨show (20 : Nat) < 100 from by decide, nf2⟩, List.forall_mem_cons.mpr ⟨⟨show (20 : Nat) < 100 from by decide, nf3⟩, (fun _ h => (by cases h))⟩⟩⟩⟩
set_option maxHeartbeats 4000000 in
theorem vc_Re_advance_26_0 (x5 : Int) (x19 : Int) (next_1 : Int) (begin_1 : Int) (end_2 : Int) (begin_2 : Int) (next_2 : Int) (end_0 : Int) (end_1 : Int) (next_0 : Int) (begin_0 : Int) (k5 : 0 ≤ x5 ∧ x5 ≤ 1999) (k19 : 1 ≤ x19 ∧ x19 ≤ 2000) (d0 : x5 + 1 ≤ x19 ∧ x19 ≤ x5 + 1) (g3 : x5 = next_1) (f4 : 1 * begin_1 + ((-1) * next_1 + 0) ≤ 0) (fe_0_5_1 : end_0 = end_1) (fe_0_6_1 : next_0 = x19) (fe_0_8_1 : begin_0 = begin_1) (fe_0_5_2 : end_1 = end_2) (fe_0_6_2 : next_1 = next_2) (fe_0_8_2 : begin_1 = begin_2) (kz_0_5 : 0 ≤ end_0 ∧ end_0 ≤ 2000) (kz_0_6 : 0 ≤ next_0 ∧ next_0 ≤ 2000) (kz_0_8 : 0 ≤ begin_0 ∧ begin_0 ≤ 2000) : 1 * begin_0 + ((-1) * next_0 + 0) ≤ 0 := by
  subst fe_0_5_1
  subst fe_0_8_1
  subst fe_0_5_2
  subst fe_0_6_2
  subst fe_0_8_2
  first | assumption | omega | grind
def o_Re_advance_26 : or_T := (171, 20, [(0, (2, 0, 0, [8])), (5, (0, 0, 1999, [])), (19, (0, 1, 2000, []))], [(24, [0, 2], []), (101, [2, 19], [6]), (9, [5, 2], [6]), (20, [2, 2], [30, 0, 1, 1, 8, -1, 1, 6]), (101, [2, 17], [9])], [], [], [(20, [2, 2], [30, 0, 1, 1, 8, -1, 1, 6])], [], [(19, 5, 1, 1)])
theorem oo_Re_advance_26 {kA : Nat → ClassId} : or_ok PRD kA GG o_Re_advance_26 := by
  refine or_mk fun A ta ws vs hD hth hl => ?_
  intro t0 r0 t5 k5 t19 k19 d0 f0 ta1 w1 le1 s1 f3 f4 ta2 w2 le2 s2
  replace f0 := shm_5 f0
  have s1 : (∀ b j, w_el ws b j = w_el w1 b j) ∧ ∀ b j, w_fd ws b j = if b = v_ad (n_v vs 2) ∧ j = 6 then n_v vs 19 else w_fd w1 b j := s1.2
  replace f3 := shm_110 f3
  replace f4 := shm_204 f4
  have s2 : (∀ b j, w_el w1 b j = w_el w2 b j) ∧ ∀ b j, w_fd w1 b j = if b = v_ad (n_v vs 2) ∧ j = 9 then n_v vs 17 else w_fd w2 b j := s2.2
  have q2 : n_v vs 2 = n_v vs 0 := f0.symm
  rw [q2] at s1
  simp only [q2] at f3 f4
  rw [q2] at s2
  have g3 : v_iv (n_v vs 5) = w_fi w1 (n_v vs 0) 6 := congrArg v_iv f3
  have fe_0_5_1 : w_fi ws (n_v vs 0) 5 = w_fi w1 (n_v vs 0) 5 := by show v_iv (w_fd _ _ _) = v_iv (w_fd _ _ _); rw [s1.2, if_neg (fun e => absurd e.2 (by decide))]
  have fe_0_6_1 : w_fi ws (n_v vs 0) 6 = v_iv (n_v vs 19) := by show v_iv (w_fd _ _ _) = _; rw [s1.2, if_pos ⟨rfl, rfl⟩]
  have fe_0_8_1 : w_fi ws (n_v vs 0) 8 = w_fi w1 (n_v vs 0) 8 := by show v_iv (w_fd _ _ _) = v_iv (w_fd _ _ _); rw [s1.2, if_neg (fun e => absurd e.2 (by decide))]
  have fe_0_5_2 : w_fi w1 (n_v vs 0) 5 = w_fi w2 (n_v vs 0) 5 := by show v_iv (w_fd _ _ _) = v_iv (w_fd _ _ _); rw [s2.2, if_neg (fun e => absurd e.2 (by decide))]
  have fe_0_6_2 : w_fi w1 (n_v vs 0) 6 = w_fi w2 (n_v vs 0) 6 := by show v_iv (w_fd _ _ _) = v_iv (w_fd _ _ _); rw [s2.2, if_neg (fun e => absurd e.2 (by decide))]
  have fe_0_8_2 : w_fi w1 (n_v vs 0) 8 = w_fi w2 (n_v vs 0) 8 := by show v_iv (w_fd _ _ _) = v_iv (w_fd _ _ _); rw [s2.2, if_neg (fun e => absurd e.2 (by decide))]
  have kz_0_5 := fdq_28 hD hth r0
  have kz_0_6 := fdq_29 hD hth r0
  have kz_0_8 := fdq_31 hD hth r0
  have nf0 : fc_1 PRD (20, [2, 2], [30, 0, 1, 1, 8, -1, 1, 6]) ws (vs) := by
    refine ⟨nf_in hl rfl, sgq_204 ?_⟩
    · show 1 * w_fi ws (n_v vs 2) 8 + ((-1) * w_fi ws (n_v vs 2) 6 + 0) ≤ 0
      rw [q2]
      exact vc_Re_advance_26_0 (v_iv (n_v vs 5)) (v_iv (n_v vs 19)) (w_fi w1 (n_v vs 0) 6) (w_fi w1 (n_v vs 0) 8) (w_fi w2 (n_v vs 0) 5) (w_fi w2 (n_v vs 0) 8) (w_fi w2 (n_v vs 0) 6) (w_fi ws (n_v vs 0) 5) (w_fi w1 (n_v vs 0) 5) (w_fi ws (n_v vs 0) 6) (w_fi ws (n_v vs 0) 8) k5 k19 d0 g3 f4 fe_0_5_1 fe_0_6_1 fe_0_8_1 fe_0_5_2 fe_0_6_2 fe_0_8_2 kz_0_5 kz_0_6 kz_0_8
  refine ⟨(fun _ h => (by cases h)), [], trivial, ?_, (fun _ h => (by cases h))⟩
  rw [List.append_nil]
  exact List.forall_mem_cons.mpr ⟨⟨show (20 : Nat) < 100 from by decide, nf0⟩, (fun _ h => (by cases h))⟩
def n_Re_advance_an : List an_T := [(0, [(0, (2, 0, 0, [8]))], [], (0, 0), [(0, 0, 100000), (1, 3, 2000), (0, 0, 100000)], [], [((0, 6), (0, 0, 2000, []))], [(2, 0, 0, [8]), (0, (Int.negSucc 2147483647), 1000000, [])], 0, [], [(20, [2, 1], [30, 0, 1, 1, 9, (Int.negSucc 0), 0, 0]), (20, [2, 1], [30, 0, (Int.negSucc 0), 1, 9, 1, 0, 0]), (24, [0, 2], [])]), (94, [(0, (2, 0, 0, [8])), (1, (0, 65, 122, []))], [], (0, 0), [(0, 0, 99906), (1, 4, 2000), (0, 0, 100000)], [], [((0, 6), (0, 0, 2000, []))], [(2, 0, 0, [8]), (0, (Int.negSucc 2147483647), 1000000, [])], 0, [], [(20, [2, 1], [30, 0, 1, 1, 9, (Int.negSucc 0), 0, 0]), (20, [2, 1], [30, 0, (Int.negSucc 0), 1, 9, 1, 0, 0]), (20, [2, 2], [30, 0, 1, 1, 8, (Int.negSucc 0), 1, 6]), (24, [0, 2], [])]), (171, [(0, (2, 0, 0, [8])), (1, (0, 48, 57, []))], [], (0, 0), [(0, 0, 99829), (1, 5, 2000), (0, 0, 100000)], [], [((0, 9), (0, (Int.negSucc 2147483647), 1000000, [])), ((0, 6), (0, 0, 2000, []))], [(2, 0, 0, [8]), (0, (Int.negSucc 2147483647), 1000000, [])], 0, [], [(20, [2, 2], [30, 0, 1, 1, 8, (Int.negSucc 0), 1, 6]), (24, [0, 2], [])])]
def t_Re_advance_ct : ct_L := [(0, 64, e_Re_isLetter), (0, 68, e_Re_isDigit), (0, 71, e_Re_isNameByte), (0, 81, e_Re_isSign), (663, 75, e_jMath_min1_v146), (663, 75, e_jMath_min1_v147), (663, 75, e_jMath_min1_v148), (663, 75, e_jMath_min1_v149), (663, 75, e_jMath_min1_v150)]
