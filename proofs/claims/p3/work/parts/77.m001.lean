set_option maxRecDepth 100000 in
theorem c_Pl_sumPulls {l : Launch} {D : va_G} {kA : Nat → ClassId} (h_Gr_edgeBetween_at_Gr : ct_ok PRD l D kA GG y_Gr_edgeBetween_at_Gr z_Gr_edgeBetween_at_Gr e_Gr_edgeBetween_at_Gr) (h_Pl_root : ct_ok PRD l D kA GG y_Pl_root z_Pl_root e_Pl_root) : ct_ok PRD l D kA GG y_Pl_sumPulls z_Pl_sumPulls e_Pl_sumPulls := chk_all_ok (FT := [(9, 6, 0), (61, 6, 15), (65, 6, 16), (68, 6, 17), (71, 6, 18), (74, 3, 0), (256, 3, 9)]) (PT := []) (CT := t_Pl_sumPulls_ct) (KT := [(2, 245, .long (65536), (1, 65536, 65536, [])), (2, 254, .long (1024), (1, 1024, 1024, []))]) (NT := []) (AN := n_Pl_sumPulls_an) (OT := [o_Pl_sumPulls_0, o_Pl_sumPulls_1]) 5 1764 (List.forall_mem_cons.mpr ⟨oo_Pl_sumPulls_0, List.forall_mem_cons.mpr ⟨oo_Pl_sumPulls_1, List.forall_mem_nil _⟩⟩) (by decide +kernel) ⟨List.forall_mem_cons.mpr ⟨gf_Pl_9, List.forall_mem_cons.mpr ⟨gf_Pl_61, List.forall_mem_cons.mpr ⟨gf_Pl_65, List.forall_mem_cons.mpr ⟨gf_Pl_68, List.forall_mem_cons.mpr ⟨gf_Pl_71, List.forall_mem_cons.mpr ⟨gf_Pl_74, List.forall_mem_cons.mpr ⟨gf_Pl_256, List.forall_mem_nil _⟩⟩⟩⟩⟩⟩⟩, List.forall_mem_nil _, List.forall_mem_cons.mpr ⟨cl_static (y := y_Pl_root) h_Pl_root wm_1795 wm_21 wm_1793 wm_1794 ⟨by decide, by decide, by decide +kernel⟩ (by decide), List.forall_mem_cons.mpr ⟨cl_static (y := y_jArr_fill2) c_jArr_fill2_v97 wm_1790 wm_4 wm_1788 wm_1789 ⟨by decide, by decide, by decide +kernel⟩ (by decide), List.forall_mem_cons.mpr ⟨cl_static (y := y_jArr_fill2) c_jArr_fill2_v98 wm_1790 wm_4 wm_1788 wm_1789 ⟨by decide, by decide, by decide +kernel⟩ (by decide), List.forall_mem_cons.mpr ⟨cl_virtual (y := y_Gr_edgeBetween_at_Gr) (ci := 3) rfl rfl ⟨_, _, rfl⟩ (by decide +kernel) h_Gr_edgeBetween_at_Gr wm_768 wm_3 wm_1792 wm_766 wm_767 ⟨by decide, by decide, by decide +kernel⟩ (by decide), List.forall_mem_nil _⟩⟩⟩⟩, List.forall_mem_cons.mpr ⟨⟨kt_mk2 wm_1791, fun _ => Or.inr (Or.inl ⟨rfl, _, rfl, by decide, by decide⟩)⟩, List.forall_mem_cons.mpr ⟨⟨kt_mk2 wm_1796, fun _ => Or.inr (Or.inl ⟨rfl, _, rfl, by decide, by decide⟩)⟩, List.forall_mem_nil _⟩⟩, List.forall_mem_nil _, GG_pl⟩ (by decide +kernel)

def n_Pn_middleOfEdges_an : List an_T := [(10, [(0, (2, 0, 0, [7])), (1, (2, 0, 0, [3])), (2, (0, 0, 23, [])), (3, (0, (Int.negSucc 0), 1000000, [])), (4, (0, (Int.negSucc 999999), 8000, [])), (5, (0, 0, 48, []))], [], (0, 0), [(0, 0, 99990), (1, 5, 48), (0, 0, 100000)], [], [], [], 0, [], [])]
def t_Pn_middleOfEdges_ct : ct_L := [(150, 242, e_jMath_min1_v102), (150, 242, e_jMath_min1_v105), (189, 92, e_jMath_max1_v103), (189, 92, e_jMath_max1_v106), (237, 245, e_jMath_floorDiv1_v101), (237, 245, e_jMath_floorDiv1_v104)]
set_option maxRecDepth 100000 in
theorem c_Pn_middleOfEdges {l : Launch} {D : va_G} {kA : Nat → ClassId} : ct_ok PRD l D kA GG y_Pn_middleOfEdges z_Pn_middleOfEdges e_Pn_middleOfEdges := chk_all_ok (FT := [(41, 7, 8), (203, 3, 1), (214, 3, 7), (218, 3, 8)]) (PT := []) (CT := t_Pn_middleOfEdges_ct) (KT := [(0, 240, .int (1000000), (0, 1000000, 1000000, [])), (0, 241, .int (Int32.ofInt (-1000000)), (0, -1000000, -1000000, []))]) (NT := []) (AN := n_Pn_middleOfEdges_an) (OT := []) 3 248 (List.forall_mem_nil _) (by decide +kernel) ⟨List.forall_mem_cons.mpr ⟨gf_Pn_41, List.forall_mem_cons.mpr ⟨gf_Pn_203, List.forall_mem_cons.mpr ⟨gf_Pn_214, List.forall_mem_cons.mpr ⟨gf_Pn_218, List.forall_mem_nil _⟩⟩⟩⟩, List.forall_mem_nil _, List.forall_mem_cons.mpr ⟨cl_static (y := y_jMath_min1) c_jMath_min1_v102 wm_658 wm_10 wm_1614 wm_657 ⟨by decide, by decide, by decide +kernel⟩ (by decide), List.forall_mem_cons.mpr ⟨cl_static (y := y_jMath_min1) c_jMath_min1_v105 wm_658 wm_10 wm_1614 wm_657 ⟨by decide, by decide, by decide +kernel⟩ (by decide), List.forall_mem_cons.mpr ⟨cl_static (y := y_jMath_max1) c_jMath_max1_v103 wm_836 wm_10 wm_1574 wm_835 ⟨by decide, by decide, by decide +kernel⟩ (by decide), List.forall_mem_cons.mpr ⟨cl_static (y := y_jMath_max1) c_jMath_max1_v106 wm_836 wm_10 wm_1574 wm_835 ⟨by decide, by decide, by decide +kernel⟩ (by decide), List.forall_mem_cons.mpr ⟨cl_static (y := y_jMath_floorDiv1) c_jMath_floorDiv1_v101 wm_1617 wm_10 wm_1615 wm_1616 ⟨by decide, by decide, by decide +kernel⟩ (by decide), List.forall_mem_cons.mpr ⟨cl_static (y := y_jMath_floorDiv1) c_jMath_floorDiv1_v104 wm_1617 wm_10 wm_1615 wm_1616 ⟨by decide, by decide, by decide +kernel⟩ (by decide), List.forall_mem_nil _⟩⟩⟩⟩⟩⟩, List.forall_mem_cons.mpr ⟨kx_Pn_0_240, List.forall_mem_cons.mpr ⟨kx_Pn_0_241, List.forall_mem_nil _⟩⟩, List.forall_mem_nil _, GG_pl⟩ (by decide +kernel)
def n_Sy_lookAtNode_an : List an_T := [(9, [(0, (2, 0, 0, [11])), (1, (2, 0, 0, [3])), (2, (2, 0, 0, [2])), (3, (2, 0, 0, [0])), (4, (0, 0, 23, [])), (5, (0, (Int.negSucc 2147483647), 2147483647, [])), (6, (0, (Int.negSucc 2147483647), 2147483647, [])), (7, (0, 0, 48, []))], [], (0, 0), [(0, 0, 99991), (1, 7, 48), (0, 0, 100000)], [], [], [], 0, [], []), (37, [(0, (2, 0, 0, [11])), (1, (2, 0, 0, [3])), (2, (2, 0, 0, [2])), (3, (2, 0, 0, [0])), (4, (0, 0, 23, [])), (5, (0, (Int.negSucc 2147483647), 2147483647, [])), (6, (0, (Int.negSucc 2147483647), 2147483647, [])), (7, (0, 0, 47, []))], [(0, 0, 1, []), (0, (Int.negSucc 2147483647), 2147483647, [])], (0, 0), [(0, 0, 99991), (1, 7, 48), (0, 0, 99963)], [], [((1, 1), (0, 1, 48, []))], [], 0, [], []), (59, [(0, (2, 0, 0, [11])), (1, (2, 0, 0, [3])), (2, (2, 0, 0, [2])), (3, (2, 0, 0, [0])), (4, (0, 0, 23, [])), (5, (0, (Int.negSucc 2147483647), 2147483647, [])), (6, (0, (Int.negSucc 2147483647), 2147483647, [])), (7, (0, 0, 47, []))], [(0, 0, 1, []), (0, (Int.negSucc 2147483647), 2147483647, [])], (0, 0), [(0, 0, 99991), (1, 7, 48), (0, 0, 99941)], [], [((1, 1), (0, 1, 48, []))], [], 0, [], []), (81, [(0, (2, 0, 0, [11])), (1, (2, 0, 0, [3])), (2, (2, 0, 0, [2])), (3, (2, 0, 0, [0])), (4, (0, 0, 23, [])), (5, (0, (Int.negSucc 2147483647), 2147483647, [])), (6, (0, (Int.negSucc 2147483647), 2147483647, [])), (7, (0, 0, 48, []))], [(0, 0, 1, [])], (0, 0), [(0, 0, 99919), (0, 0, 0), (0, 0, 0)], [], [((3, 1), (0, (Int.negSucc 0), 7, [])), ((1, 1), (0, 0, 48, []))], [], 0, [], []), (197, [(0, (2, 0, 0, [11])), (1, (2, 0, 0, [3])), (2, (2, 0, 0, [2])), (3, (2, 0, 0, [0])), (4, (0, 0, 23, [])), (5, (0, (Int.negSucc 2147483647), 2147483647, [])), (6, (0, (Int.negSucc 2147483647), 2147483647, [])), (7, (0, 0, 1, []))], [(1, 0, 1, []), (0, 7, 7, []), (2, 0, 0, [130])], (0, 0), [(0, 0, 99803), (0, 0, 0), (0, 0, 0)], [], [((3, 1), (0, (Int.negSucc 0), 7, [])), ((1, 1), (0, 0, 48, []))], [], 0, [], []), (221, [(0, (2, 0, 0, [11])), (1, (2, 0, 0, [3])), (2, (2, 0, 0, [2])), (3, (2, 0, 0, [0])), (4, (0, 0, 23, [])), (5, (0, (Int.negSucc 2147483647), 2147483647, [])), (6, (0, (Int.negSucc 2147483647), 2147483647, [])), (7, (0, 0, 1, []))], [(1, (Int.negSucc 39999999), 690000000, []), (0, 8, 8, []), (2, 0, 0, [130])], (0, 0), [(0, 0, 99779), (0, 0, 0), (0, 0, 0)], [], [((3, 1), (0, (Int.negSucc 0), 7, [])), ((1, 1), (0, 0, 48, []))], [], 0, [], []), (245, [(0, (2, 0, 0, [11])), (1, (2, 0, 0, [3])), (2, (2, 0, 0, [2])), (3, (2, 0, 0, [0])), (4, (0, 0, 23, [])), (5, (0, (Int.negSucc 2147483647), 2147483647, [])), (6, (0, (Int.negSucc 2147483647), 2147483647, [])), (7, (0, 0, 1, []))], [(1, (Int.negSucc 39999999), 690000000, []), (0, 9, 9, []), (2, 0, 0, [130])], (0, 0), [(0, 0, 99755), (0, 0, 0), (0, 0, 0)], [], [((3, 1), (0, (Int.negSucc 0), 7, [])), ((1, 1), (0, 0, 48, []))], [], 0, [], [])]
def t_Sy_lookAtNode_ct : ct_L := [(1, 214, e_Gr_distance), (288, 203, e_jInt_bitCount_v8)]
set_option maxRecDepth 100000 in
theorem c_Sy_lookAtNode {l : Launch} {D : va_G} {kA : Nat → ClassId} (h_Gr_distance : ct_ok PRD l D kA GG y_Gr_distance z_Gr_distance e_Gr_distance) : ct_ok PRD l D kA GG y_Sy_lookAtNode z_Sy_lookAtNode e_Sy_lookAtNode := chk_all_ok (FT := [(66, 11, 16), (185, 3, 1), (191, 3, 8), (194, 3, 7), (197, 0, 1), (200, 3, 14), (208, 3, 5), (211, 3, 6), (217, 2, 7), (222, 2, 8), (225, 0, 2), (228, 0, 3)]) (PT := []) (CT := t_Sy_lookAtNode_ct) (KT := []) (NT := []) (AN := n_Sy_lookAtNode_an) (OT := []) 3 568 (List.forall_mem_nil _) (by decide +kernel) ⟨List.forall_mem_cons.mpr ⟨gf_Sy_66, List.forall_mem_cons.mpr ⟨gf_Sy_185, List.forall_mem_cons.mpr ⟨gf_Sy_191, List.forall_mem_cons.mpr ⟨gf_Sy_194, List.forall_mem_cons.mpr ⟨gf_Sy_197, List.forall_mem_cons.mpr ⟨gf_Sy_200, List.forall_mem_cons.mpr ⟨gf_Sy_208, List.forall_mem_cons.mpr ⟨gf_Sy_211, List.forall_mem_cons.mpr ⟨gf_Sy_217, List.forall_mem_cons.mpr ⟨gf_Sy_222, List.forall_mem_cons.mpr ⟨gf_Sy_225, List.forall_mem_cons.mpr ⟨gf_Sy_228, List.forall_mem_nil _⟩⟩⟩⟩⟩⟩⟩⟩⟩⟩⟩⟩, List.forall_mem_nil _, List.forall_mem_cons.mpr ⟨cl_virtual (y := y_Gr_distance) (ci := 3) rfl rfl ⟨_, _, rfl⟩ (by decide +kernel) h_Gr_distance wm_1021 wm_3 wm_2292 wm_1019 wm_1020 ⟨by decide, by decide, by decide +kernel⟩ (by decide), List.forall_mem_cons.mpr ⟨cl_static (y := y_jInt_bitCount) c_jInt_bitCount_v8 wm_870 wm_17 wm_2291 wm_869 ⟨by decide, by decide, by decide +kernel⟩ (by decide), List.forall_mem_nil _⟩⟩, List.forall_mem_nil _, List.forall_mem_nil _, GG_pl⟩ (by decide +kernel)
def n_Mo_isLonger_an : List an_T := []
def t_Mo_isLonger_ct : ct_L := [(0, 1091, e_Mo_turnOf), (240, 1097, e_jMath_max2_v118), (261, 1097, e_jMath_max2_v118), (270, 1095, e_jMath_min2_v119), (288, 1095, e_jMath_min2_v119), (309, 1095, e_jMath_min2_v119), (318, 1097, e_jMath_max2_v118), (345, 1097, e_jMath_max2_v120), (366, 1097, e_jMath_max2_v120), (375, 1095, e_jMath_min2_v121), (393, 1095, e_jMath_min2_v121), (414, 1095, e_jMath_min2_v121), (423, 1097, e_jMath_max2_v120)]
set_option maxRecDepth 100000 in
theorem c_Mo_isLonger {l : Launch} {D : va_G} {kA : Nat → ClassId} (h_Mo_turnOf : ct_ok PRD l D kA GG y_Mo_turnOf z_Mo_turnOf e_Mo_turnOf) : ct_ok PRD l D kA GG y_Mo_isLonger z_Mo_isLonger e_Mo_isLonger := chk_all_ok (FT := []) (PT := []) (CT := t_Mo_isLonger_ct) (KT := []) (NT := []) (AN := n_Mo_isLonger_an) (OT := []) 0 400 (List.forall_mem_nil _) (by decide +kernel) ⟨List.forall_mem_nil _, List.forall_mem_nil _, List.forall_mem_cons.mpr ⟨cl_static (y := y_Mo_turnOf) h_Mo_turnOf wm_3745 wm_9 wm_3743 wm_3744 ⟨by decide, by decide, by decide +kernel⟩ (by decide), List.forall_mem_cons.mpr ⟨cl_static (y := y_jMath_max2) c_jMath_max2_v118 wm_1750 wm_10 wm_3757 wm_1749 ⟨by decide, by decide, by decide +kernel⟩ (by decide), List.forall_mem_cons.mpr ⟨cl_static (y := y_jMath_max2) c_jMath_max2_v118 wm_1750 wm_10 wm_3757 wm_1749 ⟨by decide, by decide, by decide +kernel⟩ (by decide), List.forall_mem_cons.mpr ⟨cl_static (y := y_jMath_min2) c_jMath_min2_v119 wm_1753 wm_10 wm_3756 wm_1752 ⟨by decide, by decide, by decide +kernel⟩ (by decide), List.forall_mem_cons.mpr ⟨cl_static (y := y_jMath_min2) c_jMath_min2_v119 wm_1753 wm_10 wm_3756 wm_1752 ⟨by decide, by decide, by decide +kernel⟩ (by decide), List.forall_mem_cons.mpr ⟨cl_static (y := y_jMath_min2) c_jMath_min2_v119 wm_1753 wm_10 wm_3756 wm_1752 ⟨by decide, by decide, by decide +kernel⟩ (by decide), List.forall_mem_cons.mpr ⟨cl_static (y := y_jMath_max2) c_jMath_max2_v118 wm_1750 wm_10 wm_3757 wm_1749 ⟨by decide, by decide, by decide +kernel⟩ (by decide), List.forall_mem_cons.mpr ⟨cl_static (y := y_jMath_max2) c_jMath_max2_v120 wm_1750 wm_10 wm_3757 wm_1749 ⟨by decide, by decide, by decide +kernel⟩ (by decide), List.forall_mem_cons.mpr ⟨cl_static (y := y_jMath_max2) c_jMath_max2_v120 wm_1750 wm_10 wm_3757 wm_1749 ⟨by decide, by decide, by decide +kernel⟩ (by decide), List.forall_mem_cons.mpr ⟨cl_static (y := y_jMath_min2) c_jMath_min2_v121 wm_1753 wm_10 wm_3756 wm_1752 ⟨by decide, by decide, by decide +kernel⟩ (by decide), List.forall_mem_cons.mpr ⟨cl_static (y := y_jMath_min2) c_jMath_min2_v121 wm_1753 wm_10 wm_3756 wm_1752 ⟨by decide, by decide, by decide +kernel⟩ (by decide), List.forall_mem_cons.mpr ⟨cl_static (y := y_jMath_min2) c_jMath_min2_v121 wm_1753 wm_10 wm_3756 wm_1752 ⟨by decide, by decide, by decide +kernel⟩ (by decide), List.forall_mem_cons.mpr ⟨cl_static (y := y_jMath_max2) c_jMath_max2_v120 wm_1750 wm_10 wm_3757 wm_1749 ⟨by decide, by decide, by decide +kernel⟩ (by decide), List.forall_mem_nil _⟩⟩⟩⟩⟩⟩⟩⟩⟩⟩⟩⟩⟩, List.forall_mem_nil _, List.forall_mem_nil _, GG_pl⟩ (by decide +kernel)
def n_Mo_isOn_an : List an_T := []
def t_Mo_isOn_ct : ct_L := [(0, 1091, e_Mo_turnOf), (72, 1095, e_jMath_min2_v119), (108, 1097, e_jMath_max2_v118), (144, 1095, e_jMath_min2_v121), (180, 1097, e_jMath_max2_v120)]
set_option maxRecDepth 100000 in
theorem c_Mo_isOn {l : Launch} {D : va_G} {kA : Nat → ClassId} (h_Mo_turnOf : ct_ok PRD l D kA GG y_Mo_turnOf z_Mo_turnOf e_Mo_turnOf) : ct_ok PRD l D kA GG y_Mo_isOn z_Mo_isOn e_Mo_isOn := chk_all_ok (FT := []) (PT := []) (CT := t_Mo_isOn_ct) (KT := []) (NT := []) (AN := n_Mo_isOn_an) (OT := []) 0 200 (List.forall_mem_nil _) (by decide +kernel) ⟨List.forall_mem_nil _, List.forall_mem_nil _, List.forall_mem_cons.mpr ⟨cl_static (y := y_Mo_turnOf) h_Mo_turnOf wm_3745 wm_9 wm_3743 wm_3744 ⟨by decide, by decide, by decide +kernel⟩ (by decide), List.forall_mem_cons.mpr ⟨cl_static (y := y_jMath_min2) c_jMath_min2_v119 wm_1753 wm_10 wm_3756 wm_1752 ⟨by decide, by decide, by decide +kernel⟩ (by decide), List.forall_mem_cons.mpr ⟨cl_static (y := y_jMath_max2) c_jMath_max2_v118 wm_1750 wm_10 wm_3757 wm_1749 ⟨by decide, by decide, by decide +kernel⟩ (by decide), List.forall_mem_cons.mpr ⟨cl_static (y := y_jMath_min2) c_jMath_min2_v121 wm_1753 wm_10 wm_3756 wm_1752 ⟨by decide, by decide, by decide +kernel⟩ (by decide), List.forall_mem_cons.mpr ⟨cl_static (y := y_jMath_max2) c_jMath_max2_v120 wm_1750 wm_10 wm_3757 wm_1749 ⟨by decide, by decide, by decide +kernel⟩ (by decide), List.forall_mem_nil _⟩⟩⟩⟩⟩, List.forall_mem_nil _, List.forall_mem_nil _, GG_pl⟩ (by decide +kernel)
def n_Ho_at_an : List an_T := []
def t_Ho_at_ct : ct_L := [(0, 115, e_Ho_isPlace), (1, 312, e_Dr_coordinate)]
set_option maxRecDepth 100000 in
theorem c_Ho_at {l : Launch} {D : va_G} {kA : Nat → ClassId} (h_Dr_coordinate : ct_ok PRD l D kA GG y_Dr_coordinate z_Dr_coordinate e_Dr_coordinate) (h_Ho_isPlace : ct_ok PRD l D kA GG y_Ho_isPlace z_Ho_isPlace e_Ho_isPlace) : ct_ok PRD l D kA GG y_Ho_at z_Ho_at e_Ho_at := chk_all_ok (FT := [(31, 12, 3)]) (PT := []) (CT := t_Ho_at_ct) (KT := [(1, 315, .int (Int32.ofInt (-2147483648)), (0, -2147483648, -2147483648, []))]) (NT := []) (AN := n_Ho_at_an) (OT := []) 0 200 (List.forall_mem_nil _) (by decide +kernel) ⟨List.forall_mem_cons.mpr ⟨gf_Ho_31, List.forall_mem_nil _⟩, List.forall_mem_nil _, List.forall_mem_cons.mpr ⟨cl_static (y := y_Ho_isPlace) h_Ho_isPlace wm_633 wm_1 wm_631 wm_632 ⟨by decide, by decide, by decide +kernel⟩ (by decide), List.forall_mem_cons.mpr ⟨cl_virtual (y := y_Dr_coordinate) (ci := 0) rfl rfl ⟨_, _, rfl⟩ (by decide +kernel) h_Dr_coordinate wm_1820 wm_8 wm_1817 wm_1818 wm_1819 ⟨by decide, by decide, by decide +kernel⟩ (by decide), List.forall_mem_nil _⟩⟩, List.forall_mem_cons.mpr ⟨kx_Ho_1_315, List.forall_mem_nil _⟩, List.forall_mem_nil _, GG_pl⟩ (by decide +kernel)
def n_Ho_far_an : List an_T := []
def t_Ho_far_ct : ct_L := [(0, 115, e_Ho_isPlace), (1, 166, e_Gr_hasNode), (1, 247, e_Gr_distance)]
set_option maxRecDepth 100000 in
theorem c_Ho_far {l : Launch} {D : va_G} {kA : Nat → ClassId} (h_Gr_distance : ct_ok PRD l D kA GG y_Gr_distance z_Gr_distance e_Gr_distance) (h_Gr_hasNode : ct_ok PRD l D kA GG y_Gr_hasNode z_Gr_hasNode e_Gr_hasNode) (h_Ho_isPlace : ct_ok PRD l D kA GG y_Ho_isPlace z_Ho_isPlace e_Ho_isPlace) : ct_ok PRD l D kA GG y_Ho_far z_Ho_far e_Ho_far := chk_all_ok (FT := [(13, 12, 0)]) (PT := []) (CT := t_Ho_far_ct) (KT := []) (NT := []) (AN := n_Ho_far_an) (OT := []) 0 200 (List.forall_mem_nil _) (by decide +kernel) ⟨List.forall_mem_cons.mpr ⟨gf_Ho_13, List.forall_mem_nil _⟩, List.forall_mem_nil _, List.forall_mem_cons.mpr ⟨cl_static (y := y_Ho_isPlace) h_Ho_isPlace wm_633 wm_1 wm_631 wm_632 ⟨by decide, by decide, by decide +kernel⟩ (by decide), List.forall_mem_cons.mpr ⟨cl_virtual (y := y_Gr_hasNode) (ci := 3) rfl rfl ⟨_, _, rfl⟩ (by decide +kernel) h_Gr_hasNode wm_921 wm_3 wm_918 wm_919 wm_920 ⟨by decide, by decide, by decide +kernel⟩ (by decide), List.forall_mem_cons.mpr ⟨cl_virtual (y := y_Gr_distance) (ci := 3) rfl rfl ⟨_, _, rfl⟩ (by decide +kernel) h_Gr_distance wm_1021 wm_3 wm_1018 wm_1019 wm_1020 ⟨by decide, by decide, by decide +kernel⟩ (by decide), List.forall_mem_nil _⟩⟩⟩, List.forall_mem_nil _, List.forall_mem_nil _, GG_pl⟩ (by decide +kernel)
def o_Ho_put_0 : or_T := (19, 10, [(0, (2, 0, 0, [12])), (6, (0, 0, 3066, []))], [(20, [0, 6], [62, 2000000])], [], [(2, 0, 0, [12]), (0, 0, 3072, [])], [(24, [0, 10], []), (23, [11, 6], [0, 1, -1]), (23, [11, 6], [0, -1, 1]), (20, [10, 11], [62, 2000000])], [], [])
theorem oo_Ho_put_0 {kA : Nat → ClassId} : or_ok PRD kA GG o_Ho_put_0 := by
  refine or_mk fun A ta ws vs hD hth hl => ?_
  intro t0 r0 t6 k6 f0
  replace f0 := shm_161 f0
  obtain ⟨y, ey, hy⟩ := iv_ex (ta := ta) (lo := 0) (hi := 3072) (z := v_iv (n_v vs 6)) (by omega) (by omega) (by omega) (by omega)
  have ey2 : v_iv (Value.int y) = v_iv (n_v vs 6) := ey
  have ey3 : 0 ≤ v_iv (Value.int y) ∧ v_iv (Value.int y) ≤ 3072 := tv_rng hy
  have e_0 : n_v (vs ++ [n_v vs 0, Value.int y]) 0 = n_v vs 0 := n_v_old (by rw [hl]; decide)
  have e_6 : n_v (vs ++ [n_v vs 0, Value.int y]) 6 = n_v vs 6 := n_v_old (by rw [hl]; decide)
  have e_10 : n_v (vs ++ [n_v vs 0, Value.int y]) 10 = n_v vs 0 := n_v_new0 hl
  have e_11 : n_v (vs ++ [n_v vs 0, Value.int y]) 11 = Value.int y := n_v_new1 hl
  have nf0 : fc_1 PRD (24, [0, 10], []) ws (vs ++ [n_v vs 0, Value.int y]) := by
    refine ⟨nf_inA hl rfl, sgq_5 ?_⟩
    · show n_v (vs ++ [n_v vs 0, Value.int y]) 0 = n_v (vs ++ [n_v vs 0, Value.int y]) 10
      first | rfl | simp only [e_0, e_10]
  have nf1 : fc_1 PRD (23, [11, 6], [0, 1, -1]) ws (vs ++ [n_v vs 0, Value.int y]) := by
    refine ⟨nf_inA hl rfl, sgq_7 ?_⟩
    · show 1 * v_iv (n_v (vs ++ [n_v vs 0, Value.int y]) 11) + ((-1) * v_iv (n_v (vs ++ [n_v vs 0, Value.int y]) 6) + 0) ≤ 0
      simp only [e_6, e_11]
      omega
  have nf2 : fc_1 PRD (23, [11, 6], [0, -1, 1]) ws (vs ++ [n_v vs 0, Value.int y]) := by
    refine ⟨nf_inA hl rfl, sgq_22 ?_⟩
    · show (-1) * v_iv (n_v (vs ++ [n_v vs 0, Value.int y]) 11) + (1 * v_iv (n_v (vs ++ [n_v vs 0, Value.int y]) 6) + 0) ≤ 0
      simp only [e_6, e_11]
      omega
  have nf3 : fc_1 PRD (20, [10, 11], [62, 2000000]) ws (vs ++ [n_v vs 0, Value.int y]) := by
    refine ⟨nf_inA hl rfl, sgq_161 ?_⟩
    · show HY ws (n_v (vs ++ [n_v vs 0, Value.int y]) 10) (v_iv (n_v (vs ++ [n_v vs 0, Value.int y]) 11) + (((2000000 : Nat) : Int) - 2000000))
      simp only [e_10, e_11]
      exact hy_le f0 (by omega)
  exact ⟨(fun _ h => (by cases h)), [n_v vs 0, Value.int y], ag_two t0 hy, List.forall_mem_cons.mpr ⟨⟨show (24 : Nat) < 100 from by decide, nf0⟩, List.forall_mem_cons.mpr ⟨⟨show (23 : Nat) < 100 from by decide, nf1⟩, List.forall_mem_cons.mpr ⟨⟨show (23 : Nat) < 100 from by decide, nf2⟩, List.forall_mem_cons.mpr ⟨⟨show (20 : Nat) < 100 from by decide, nf3⟩, (fun _ h => (by cases h))⟩⟩⟩⟩, (fun _ h => (by cases h))⟩
def o_Ho_put_1 : or_T := (30, 14, [(0, (2, 0, 0, [12])), (6, (0, 0, 3066, [])), (10, (2, 0, 0, [12])), (11, (0, 0, 3072, []))], [(24, [0, 10], []), (23, [11, 6], [0, 1, -1]), (23, [11, 6], [0, -1, 1]), (20, [10, 11], [62, 2000000]), (102, [11], [442368]), (23, [11, 6], [0, 1, -1]), (23, [11, 6], [0, -1, 1])], [], [], [(20, [0, 6], [62, 2000000])], [], [])
theorem oo_Ho_put_1 {kA : Nat → ClassId} : or_ok PRD kA GG o_Ho_put_1 := by
  refine or_mk fun A ta ws vs hD hth hl => ?_
  intro t0 r0 t6 k6 t10 r10 t11 k11 f0 f1 f2 f3 ta1 w1 le1 s1 f5 f6
  replace f0 := shm_5 f0
  replace f1 := shm_7 f1
  replace f2 := shm_22 f2
  replace f3 := shm_161 f3
  replace f5 := shm_7 f5
  replace f6 := shm_22 f6
  have q10 : n_v vs 10 = n_v vs 0 := f0.symm
  simp only [q10] at f3
  have nf0 : fc_1 PRD (20, [0, 6], [62, 2000000]) ws (vs) := by
    refine ⟨nf_in hl rfl, sgq_161 ?_⟩
    · show HY ws (n_v vs 0) (v_iv (n_v vs 6) + (((2000000 : Nat) : Int) - 2000000))
      exact hy_le f3 (by omega)
  refine ⟨(fun _ h => (by cases h)), [], trivial, ?_, (fun _ h => (by cases h))⟩
  rw [List.append_nil]
  exact List.forall_mem_cons.mpr ⟨⟨show (20 : Nat) < 100 from by decide, nf0⟩, (fun _ h => (by cases h))⟩
def n_Ho_put_an : List an_T := []
def t_Ho_put_ct : ct_L := [(0, 115, e_Ho_isPlace), (1, 319, e_Dr_move)]
set_option maxRecDepth 100000 in
theorem c_Ho_put {l : Launch} {D : va_G} {kA : Nat → ClassId} (h_Dr_move : ct_ok PRD l D kA GG y_Dr_move z_Dr_move e_Dr_move) (h_Ho_isPlace : ct_ok PRD l D kA GG y_Ho_isPlace z_Ho_isPlace e_Ho_isPlace) : ct_ok PRD l D kA GG y_Ho_put z_Ho_put e_Ho_put := chk_all_ok (FT := [(31, 12, 3)]) (PT := []) (CT := t_Ho_put_ct) (KT := []) (NT := []) (AN := n_Ho_put_an) (OT := [o_Ho_put_0, o_Ho_put_1]) 0 200 (List.forall_mem_cons.mpr ⟨oo_Ho_put_0, List.forall_mem_cons.mpr ⟨oo_Ho_put_1, List.forall_mem_nil _⟩⟩) (by decide +kernel) ⟨List.forall_mem_cons.mpr ⟨gf_Ho_31, List.forall_mem_nil _⟩, List.forall_mem_nil _, List.forall_mem_cons.mpr ⟨cl_static (y := y_Ho_isPlace) h_Ho_isPlace wm_633 wm_1 wm_631 wm_632 ⟨by decide, by decide, by decide +kernel⟩ (by decide), List.forall_mem_cons.mpr ⟨cl_virtual (y := y_Dr_move) (ci := 0) rfl rfl ⟨_, _, rfl⟩ (by decide +kernel) h_Dr_move wm_1849 wm_8 wm_1846 wm_1847 wm_1848 ⟨by decide, by decide, by decide +kernel⟩ (by decide), List.forall_mem_nil _⟩⟩, List.forall_mem_nil _, List.forall_mem_nil _, GG_pl⟩ (by decide +kernel)
set_option maxHeartbeats 4000000 in
theorem vc_Ho_writePoint_0_0 (spareLength_0 : Int) (gx : Int) (kz_0_12 : 0 ≤ spareLength_0 ∧ spareLength_0 ≤ 100000000) (ex2 : gx = spareLength_0) : 1 * spareLength_0 + ((-1) * gx + 0) ≤ 0 := by
  first | assumption | omega | grind
set_option maxHeartbeats 4000000 in
theorem vc_Ho_writePoint_0_1 (x3 : Int) (spareLength_0 : Int) (gx : Int) (k3 : 0 ≤ x3 ∧ x3 ≤ 99999982) (f0 : 1 * spareLength_0 + ((-1) * x3 + 0) ≤ 0) (kz_0_12 : 0 ≤ spareLength_0 ∧ spareLength_0 ≤ 100000000) (ex2 : gx = spareLength_0) : 1 * gx + ((-1) * x3 + 0) ≤ 0 := by
  first | assumption | omega | grind
def o_Ho_writePoint_0 : or_T := (3, 5, [(0, (2, 0, 0, [12])), (3, (0, 0, 99999982, []))], [(20, [0, 3], [30, 0, 1, 1, 12, -1, 0, 0])], [], [(0, 0, 99999999, [])], [(20, [0, 5], [30, 0, 1, 1, 12, -1, 0, 0]), (23, [5, 3], [0, 1, -1])], [], [])
theorem oo_Ho_writePoint_0 {kA : Nat → ClassId} : or_ok PRD kA GG o_Ho_writePoint_0 := by
  refine or_mk fun A ta ws vs hD hth hl => ?_
  intro t0 r0 t3 k3 f0
  replace f0 := shm_104 f0
  have kz_0_12 := fdq_0 hD hth r0
  have kv0 := fdq_0 hD hth r0
  obtain ⟨x, ex, hx⟩ := iv_ex (ta := ta) (lo := 0) (hi := 99999999) (z := w_fi ws (n_v vs 0) 12) (by omega) (by omega) (by omega) (by omega)
  have ex2 : v_iv (Value.int x) = w_fi ws (n_v vs 0) 12 := ex
  have ex3 : 0 ≤ v_iv (Value.int x) ∧ v_iv (Value.int x) ≤ 99999999 := tv_rng hx
  have e_0 : n_v (vs ++ [Value.int x]) 0 = n_v vs 0 := n_v_old (by rw [hl]; decide)
  have e_3 : n_v (vs ++ [Value.int x]) 3 = n_v vs 3 := n_v_old (by rw [hl]; decide)
  have e_5 : n_v (vs ++ [Value.int x]) 5 = Value.int x := n_v_new hl
  have nf0 : fc_1 PRD (20, [0, 5], [30, 0, 1, 1, 12, -1, 0, 0]) ws (vs ++ [Value.int x]) := by
    refine ⟨nf_inA hl rfl, sgq_104 ?_⟩
    · show 1 * w_fi ws (n_v (vs ++ [Value.int x]) 0) 12 + ((-1) * v_iv (n_v (vs ++ [Value.int x]) 5) + 0) ≤ 0
      simp only [e_0, e_5]
      exact vc_Ho_writePoint_0_0 (w_fi ws (n_v vs 0) 12) (v_iv (Value.int x)) kz_0_12 ex2
  have nf1 : fc_1 PRD (23, [5, 3], [0, 1, -1]) ws (vs ++ [Value.int x]) := by
    refine ⟨nf_inA hl rfl, sgq_7 ?_⟩
    · show 1 * v_iv (n_v (vs ++ [Value.int x]) 5) + ((-1) * v_iv (n_v (vs ++ [Value.int x]) 3) + 0) ≤ 0
      simp only [e_3, e_5]
      exact vc_Ho_writePoint_0_1 (v_iv (n_v vs 3)) (w_fi ws (n_v vs 0) 12) (v_iv (Value.int x)) k3 f0 kz_0_12 ex2
  exact ⟨(fun _ h => (by cases h)), [Value.int x], ag_one hx, List.forall_mem_cons.mpr ⟨⟨show (20 : Nat) < 100 from by decide, nf0⟩, List.forall_mem_cons.mpr ⟨⟨show (23 : Nat) < 100 from by decide, nf1⟩, (fun _ h => (by cases h))⟩⟩, (fun _ h => (by cases h))⟩
set_option maxHeartbeats 4000000 in
theorem vc_Ho_writePoint_1_0 (spareLength_0 : Int) (gx : Int) (kz_0_12 : 0 ≤ spareLength_0 ∧ spareLength_0 ≤ 100000000) (ex2 : gx = spareLength_0) : 1 * spareLength_0 + ((-1) * gx + 0) ≤ 0 := by
  first | assumption | omega | grind
set_option maxHeartbeats 4000000 in
theorem vc_Ho_writePoint_1_1 (x3 : Int) (x5 : Int) (spareLength_0 : Int) (gx : Int) (k3 : 0 ≤ x3 ∧ x3 ≤ 99999982) (k5 : 0 ≤ x5 ∧ x5 ≤ 99999999) (f0 : 1 * x5 + ((-1) * x3 + 0) ≤ 0) (f1 : 1 * spareLength_0 + ((-1) * x5 + 0) ≤ 1) (kz_0_12 : 0 ≤ spareLength_0 ∧ spareLength_0 ≤ 100000000) (ex2 : gx = spareLength_0) : 1 * gx + ((-1) * x3 + 0) ≤ 1 := by
  first | assumption | omega | grind
def o_Ho_writePoint_1 : or_T := (8, 6, [(0, (2, 0, 0, [12])), (3, (0, 0, 99999982, [])), (5, (0, 0, 99999999, []))], [(23, [5, 3], [0, 1, -1]), (20, [0, 5], [30, 1, 1, 1, 12, -1, 0, 0]), (102, [5], [261336857795280739939871698507597986398208, 12012]), (23, [5, 3], [0, 1, -1])], [], [(0, 0, 99999992, [])], [(20, [0, 6], [30, 0, 1, 1, 12, -1, 0, 0]), (23, [6, 3], [1, 1, -1])], [], [])
theorem oo_Ho_writePoint_1 {kA : Nat → ClassId} : or_ok PRD kA GG o_Ho_writePoint_1 := by
  refine or_mk fun A ta ws vs hD hth hl => ?_
  intro t0 r0 t3 k3 t5 k5 f0 f1 ta1 w1 le1 s1 f3
  replace f0 := shm_7 f0
  replace f1 := shm_105 f1
  replace f3 := shm_7 f3
  have kz_0_12 := fdq_0 hD hth r0
  have kv0 := fdq_0 hD hth r0
  obtain ⟨x, ex, hx⟩ := iv_ex (ta := ta) (lo := 0) (hi := 99999992) (z := w_fi ws (n_v vs 0) 12) (by omega) (by omega) (by omega) (by omega)
  have ex2 : v_iv (Value.int x) = w_fi ws (n_v vs 0) 12 := ex
  have ex3 : 0 ≤ v_iv (Value.int x) ∧ v_iv (Value.int x) ≤ 99999992 := tv_rng hx
  have e_0 : n_v (vs ++ [Value.int x]) 0 = n_v vs 0 := n_v_old (by rw [hl]; decide)
  have e_3 : n_v (vs ++ [Value.int x]) 3 = n_v vs 3 := n_v_old (by rw [hl]; decide)
  have e_6 : n_v (vs ++ [Value.int x]) 6 = Value.int x := n_v_new hl
  have nf0 : fc_1 PRD (20, [0, 6], [30, 0, 1, 1, 12, -1, 0, 0]) ws (vs ++ [Value.int x]) := by
    refine ⟨nf_inA hl rfl, sgq_104 ?_⟩
    · show 1 * w_fi ws (n_v (vs ++ [Value.int x]) 0) 12 + ((-1) * v_iv (n_v (vs ++ [Value.int x]) 6) + 0) ≤ 0
      simp only [e_0, e_6]
      exact vc_Ho_writePoint_1_0 (w_fi ws (n_v vs 0) 12) (v_iv (Value.int x)) kz_0_12 ex2
  have nf1 : fc_1 PRD (23, [6, 3], [1, 1, -1]) ws (vs ++ [Value.int x]) := by
    refine ⟨nf_inA hl rfl, sgq_178 ?_⟩
    · show 1 * v_iv (n_v (vs ++ [Value.int x]) 6) + ((-1) * v_iv (n_v (vs ++ [Value.int x]) 3) + 0) ≤ 1
      simp only [e_3, e_6]
      exact vc_Ho_writePoint_1_1 (v_iv (n_v vs 3)) (v_iv (n_v vs 5)) (w_fi ws (n_v vs 0) 12) (v_iv (Value.int x)) k3 k5 f0 f1 kz_0_12 ex2
  exact ⟨(fun _ h => (by cases h)), [Value.int x], ag_one hx, List.forall_mem_cons.mpr ⟨⟨show (20 : Nat) < 100 from by decide, nf0⟩, List.forall_mem_cons.mpr ⟨⟨show (23 : Nat) < 100 from by decide, nf1⟩, (fun _ h => (by cases h))⟩⟩, (fun _ h => (by cases h))⟩
set_option maxHeartbeats 4000000 in
theorem vc_Ho_writePoint_2_0 (spareLength_0 : Int) (gx : Int) (kz_0_12 : 0 ≤ spareLength_0 ∧ spareLength_0 ≤ 100000000) (ex2 : gx = spareLength_0) : 1 * spareLength_0 + ((-1) * gx + 0) ≤ 0 := by
  first | assumption | omega | grind
set_option maxHeartbeats 4000000 in
theorem vc_Ho_writePoint_2_1 (x3 : Int) (x6 : Int) (spareLength_0 : Int) (gx : Int) (k3 : 0 ≤ x3 ∧ x3 ≤ 99999982) (k6 : 0 ≤ x6 ∧ x6 ≤ 99999992) (f0 : 1 * x6 + ((-1) * x3 + 0) ≤ 1) (f2 : 1 * spareLength_0 + ((-1) * x6 + 0) ≤ 8) (kz_0_12 : 0 ≤ spareLength_0 ∧ spareLength_0 ≤ 100000000) (ex2 : gx = spareLength_0) : 1 * gx + ((-1) * x3 + 0) ≤ 9 := by
  first | assumption | omega | grind
def o_Ho_writePoint_2 : or_T := (14, 8, [(0, (2, 0, 0, [12])), (3, (0, 0, 99999982, [])), (5, (0, 0, 99999999, [])), (6, (0, 0, 99999992, []))], [(23, [6, 3], [1, 1, -1]), (23, [5, 3], [0, 1, -1]), (20, [0, 6], [30, 8, 1, 1, 12, -1, 0, 0]), (102, [6], [261336857795280739939871698507597986398208, 12012]), (23, [6, 3], [1, 1, -1]), (23, [5, 3], [0, 1, -1]), (102, [5], [261336857795280739939871698507597986398208, 12012]), (23, [5, 3], [0, 1, -1])], [], [(0, 0, 99999999, [])], [(20, [0, 8], [30, 0, 1, 1, 12, -1, 0, 0]), (23, [8, 3], [9, 1, -1])], [], [])
theorem oo_Ho_writePoint_2 {kA : Nat → ClassId} : or_ok PRD kA GG o_Ho_writePoint_2 := by
  refine or_mk fun A ta ws vs hD hth hl => ?_
  intro t0 r0 t3 k3 t5 k5 t6 k6 f0 f1 f2 ta1 w1 le1 s1 f4 f5 ta2 w2 le2 s2 f7
  replace f0 := shm_178 f0
  replace f1 := shm_7 f1
  replace f2 := shm_135 f2
  replace f4 := shm_178 f4
  replace f5 := shm_7 f5
  replace f7 := shm_7 f7
  have kz_0_12 := fdq_0 hD hth r0
  have kv0 := fdq_0 hD hth r0
  obtain ⟨x, ex, hx⟩ := iv_ex (ta := ta) (lo := 0) (hi := 99999999) (z := w_fi ws (n_v vs 0) 12) (by omega) (by omega) (by omega) (by omega)
  have ex2 : v_iv (Value.int x) = w_fi ws (n_v vs 0) 12 := ex
  have ex3 : 0 ≤ v_iv (Value.int x) ∧ v_iv (Value.int x) ≤ 99999999 := tv_rng hx
  have e_0 : n_v (vs ++ [Value.int x]) 0 = n_v vs 0 := n_v_old (by rw [hl]; decide)
  have e_3 : n_v (vs ++ [Value.int x]) 3 = n_v vs 3 := n_v_old (by rw [hl]; decide)
  have e_8 : n_v (vs ++ [Value.int x]) 8 = Value.int x := n_v_new hl
  have nf0 : fc_1 PRD (20, [0, 8], [30, 0, 1, 1, 12, -1, 0, 0]) ws (vs ++ [Value.int x]) := by
    refine ⟨nf_inA hl rfl, sgq_104 ?_⟩
    · show 1 * w_fi ws (n_v (vs ++ [Value.int x]) 0) 12 + ((-1) * v_iv (n_v (vs ++ [Value.int x]) 8) + 0) ≤ 0
      simp only [e_0, e_8]
      exact vc_Ho_writePoint_2_0 (w_fi ws (n_v vs 0) 12) (v_iv (Value.int x)) kz_0_12 ex2
  have nf1 : fc_1 PRD (23, [8, 3], [9, 1, -1]) ws (vs ++ [Value.int x]) := by
    refine ⟨nf_inA hl rfl, sgq_179 ?_⟩
    · show 1 * v_iv (n_v (vs ++ [Value.int x]) 8) + ((-1) * v_iv (n_v (vs ++ [Value.int x]) 3) + 0) ≤ 9
      simp only [e_3, e_8]
      exact vc_Ho_writePoint_2_1 (v_iv (n_v vs 3)) (v_iv (n_v vs 6)) (w_fi ws (n_v vs 0) 12) (v_iv (Value.int x)) k3 k6 f0 f2 kz_0_12 ex2
  exact ⟨(fun _ h => (by cases h)), [Value.int x], ag_one hx, List.forall_mem_cons.mpr ⟨⟨show (20 : Nat) < 100 from by decide, nf0⟩, List.forall_mem_cons.mpr ⟨⟨show (23 : Nat) < 100 from by decide, nf1⟩, (fun _ h => (by cases h))⟩⟩, (fun _ h => (by cases h))⟩
set_option maxHeartbeats 4000000 in
theorem vc_Ho_writePoint_3_0 (spareLength_0 : Int) (gx : Int) (kz_0_12 : 0 ≤ spareLength_0 ∧ spareLength_0 ≤ 100000000) (ex2 : gx = spareLength_0) : 1 * spareLength_0 + ((-1) * gx + 0) ≤ 0 := by
  first | assumption | omega | grind
set_option maxHeartbeats 4000000 in
theorem vc_Ho_writePoint_3_1 (x3 : Int) (x8 : Int) (spareLength_0 : Int) (gx : Int) (k3 : 0 ≤ x3 ∧ x3 ≤ 99999982) (k8 : 0 ≤ x8 ∧ x8 ≤ 99999999) (f0 : 1 * x8 + ((-1) * x3 + 0) ≤ 9) (f3 : 1 * spareLength_0 + ((-1) * x8 + 0) ≤ 1) (kz_0_12 : 0 ≤ spareLength_0 ∧ spareLength_0 ≤ 100000000) (ex2 : gx = spareLength_0) : 1 * gx + ((-1) * x3 + 0) ≤ 10 := by
  first | assumption | omega | grind
def o_Ho_writePoint_3 : or_T := (19, 9, [(0, (2, 0, 0, [12])), (3, (0, 0, 99999982, [])), (5, (0, 0, 99999999, [])), (6, (0, 0, 99999992, [])), (8, (0, 0, 99999999, []))], [(23, [8, 3], [9, 1, -1]), (23, [6, 3], [1, 1, -1]), (23, [5, 3], [0, 1, -1]), (20, [0, 8], [30, 1, 1, 1, 12, -1, 0, 0]), (102, [8], [261336857795280739939871698507597986398208, 12012]), (23, [8, 3], [9, 1, -1]), (23, [6, 3], [1, 1, -1]), (23, [5, 3], [0, 1, -1]), (102, [6], [261336857795280739939871698507597986398208, 12012]), (23, [6, 3], [1, 1, -1]), (23, [5, 3], [0, 1, -1]), (102, [5], [261336857795280739939871698507597986398208, 12012]), (23, [5, 3], [0, 1, -1])], [], [(0, 0, 99999992, [])], [(20, [0, 9], [30, 0, 1, 1, 12, -1, 0, 0]), (23, [9, 3], [10, 1, -1])], [], [])
theorem oo_Ho_writePoint_3 {kA : Nat → ClassId} : or_ok PRD kA GG o_Ho_writePoint_3 := by
  refine or_mk fun A ta ws vs hD hth hl => ?_
  intro t0 r0 t3 k3 t5 k5 t6 k6 t8 k8 f0 f1 f2 f3 ta1 w1 le1 s1 f5 f6 f7 ta2 w2 le2 s2 f9 f10 ta3 w3 le3 s3 f12
  replace f0 := shm_179 f0
  replace f1 := shm_178 f1
  replace f2 := shm_7 f2
  replace f3 := shm_105 f3
  replace f5 := shm_179 f5
  replace f6 := shm_178 f6
  replace f7 := shm_7 f7
  replace f9 := shm_178 f9
  replace f10 := shm_7 f10
  replace f12 := shm_7 f12
  have kz_0_12 := fdq_0 hD hth r0
  have kv0 := fdq_0 hD hth r0
  obtain ⟨x, ex, hx⟩ := iv_ex (ta := ta) (lo := 0) (hi := 99999992) (z := w_fi ws (n_v vs 0) 12) (by omega) (by omega) (by omega) (by omega)
  have ex2 : v_iv (Value.int x) = w_fi ws (n_v vs 0) 12 := ex
  have ex3 : 0 ≤ v_iv (Value.int x) ∧ v_iv (Value.int x) ≤ 99999992 := tv_rng hx
  have e_0 : n_v (vs ++ [Value.int x]) 0 = n_v vs 0 := n_v_old (by rw [hl]; decide)
  have e_3 : n_v (vs ++ [Value.int x]) 3 = n_v vs 3 := n_v_old (by rw [hl]; decide)
  have e_9 : n_v (vs ++ [Value.int x]) 9 = Value.int x := n_v_new hl
  have nf0 : fc_1 PRD (20, [0, 9], [30, 0, 1, 1, 12, -1, 0, 0]) ws (vs ++ [Value.int x]) := by
    refine ⟨nf_inA hl rfl, sgq_104 ?_⟩
    · show 1 * w_fi ws (n_v (vs ++ [Value.int x]) 0) 12 + ((-1) * v_iv (n_v (vs ++ [Value.int x]) 9) + 0) ≤ 0
      simp only [e_0, e_9]
      exact vc_Ho_writePoint_3_0 (w_fi ws (n_v vs 0) 12) (v_iv (Value.int x)) kz_0_12 ex2
  have nf1 : fc_1 PRD (23, [9, 3], [10, 1, -1]) ws (vs ++ [Value.int x]) := by
    refine ⟨nf_inA hl rfl, sgq_180 ?_⟩
    · show 1 * v_iv (n_v (vs ++ [Value.int x]) 9) + ((-1) * v_iv (n_v (vs ++ [Value.int x]) 3) + 0) ≤ 10
      simp only [e_3, e_9]
      exact vc_Ho_writePoint_3_1 (v_iv (n_v vs 3)) (v_iv (n_v vs 8)) (w_fi ws (n_v vs 0) 12) (v_iv (Value.int x)) k3 k8 f0 f3 kz_0_12 ex2
  exact ⟨(fun _ h => (by cases h)), [Value.int x], ag_one hx, List.forall_mem_cons.mpr ⟨⟨show (20 : Nat) < 100 from by decide, nf0⟩, List.forall_mem_cons.mpr ⟨⟨show (23 : Nat) < 100 from by decide, nf1⟩, (fun _ h => (by cases h))⟩⟩, (fun _ h => (by cases h))⟩
set_option maxHeartbeats 4000000 in
theorem vc_Ho_writePoint_4_0 (x3 : Int) (x9 : Int) (spareLength_0 : Int) (k3 : 0 ≤ x3 ∧ x3 ≤ 99999982) (k9 : 0 ≤ x9 ∧ x9 ≤ 99999992) (f0 : 1 * x9 + ((-1) * x3 + 0) ≤ 10) (f4 : 1 * spareLength_0 + ((-1) * x9 + 0) ≤ 8) (kz_0_12 : 0 ≤ spareLength_0 ∧ spareLength_0 ≤ 100000000) : 1 * spareLength_0 + ((-1) * x3 + 0) ≤ 18 := by
  first | assumption | omega | grind
def o_Ho_writePoint_4 : or_T := (22, 10, [(0, (2, 0, 0, [12])), (3, (0, 0, 99999982, [])), (9, (0, 0, 99999992, []))], [(23, [9, 3], [10, 1, -1]), (20, [0, 9], [30, 8, 1, 1, 12, -1, 0, 0])], [], [], [(20, [0, 3], [30, 18, 1, 1, 12, -1, 0, 0])], [], [])
theorem oo_Ho_writePoint_4 {kA : Nat → ClassId} : or_ok PRD kA GG o_Ho_writePoint_4 := by
  refine or_mk fun A ta ws vs hD hth hl => ?_
  intro t0 r0 t3 k3 t9 k9 f0 f4
  have kz_0_12 := fdq_0 hD hth r0
  have nf0 : fc_1 PRD (20, [0, 3], [30, 18, 1, 1, 12, -1, 0, 0]) ws (vs) := ⟨nf_in hl rfl, sgq_181 (vc_Ho_writePoint_4_0 (v_iv (n_v vs 3)) (v_iv (n_v vs 9)) (w_fi ws (n_v vs 0) 12) k3 k9 (shm_180 f0) (shm_135 f4) kz_0_12)⟩
  refine ⟨(fun _ h => (by cases h)), [], trivial, ?_, (fun _ h => (by cases h))⟩
  rw [List.append_nil]
  exact List.forall_mem_cons.mpr ⟨⟨show (20 : Nat) < 100 from by decide, nf0⟩, (fun _ h => (by cases h))⟩
def n_Ho_writePoint_an : List an_T := []
def t_Ho_writePoint_ct : ct_L := [(1, 447, e_Ho_writeByte), (1, 471, e_Ho_writeNumber)]
set_option maxRecDepth 100000 in
theorem c_Ho_writePoint {l : Launch} {D : va_G} {kA : Nat → ClassId} (h_Ho_writeByte : ct_ok PRD l D kA GG y_Ho_writeByte z_Ho_writeByte e_Ho_writeByte) (h_Ho_writeNumber : ct_ok PRD l D kA GG y_Ho_writeNumber z_Ho_writeNumber e_Ho_writeNumber) : ct_ok PRD l D kA GG y_Ho_writePoint z_Ho_writePoint e_Ho_writePoint := chk_all_ok (FT := []) (PT := []) (CT := t_Ho_writePoint_ct) (KT := []) (NT := []) (AN := n_Ho_writePoint_an) (OT := [o_Ho_writePoint_0, o_Ho_writePoint_1, o_Ho_writePoint_2, o_Ho_writePoint_3, o_Ho_writePoint_4]) 0 200 (List.forall_mem_cons.mpr ⟨oo_Ho_writePoint_0, List.forall_mem_cons.mpr ⟨oo_Ho_writePoint_1, List.forall_mem_cons.mpr ⟨oo_Ho_writePoint_2, List.forall_mem_cons.mpr ⟨oo_Ho_writePoint_3, List.forall_mem_cons.mpr ⟨oo_Ho_writePoint_4, List.forall_mem_nil _⟩⟩⟩⟩⟩) (by decide +kernel) ⟨List.forall_mem_nil _, List.forall_mem_nil _, List.forall_mem_cons.mpr ⟨cl_virtual (y := y_Ho_writeByte) (ci := 12) rfl rfl ⟨_, _, rfl⟩ (by decide +kernel) h_Ho_writeByte wm_2345 wm_1 wm_2342 wm_2344 wv_12_0 ⟨by decide, by decide, by decide +kernel⟩ (by decide), List.forall_mem_cons.mpr ⟨cl_virtual (y := y_Ho_writeNumber) (ci := 12) rfl rfl ⟨_, _, rfl⟩ (by decide +kernel) h_Ho_writeNumber wm_2354 wm_1 wm_2351 wm_2353 wv_12_2 ⟨by decide, by decide, by decide +kernel⟩ (by decide), List.forall_mem_nil _⟩⟩, List.forall_mem_nil _, List.forall_mem_nil _, GG_pl⟩ (by decide +kernel)
def o_La_sweep_0 : or_T := (118, 9, [(5, (0, 0, 0, [])), (7, (0, 0, 0, [])), (8, (0, 0, 72, []))], [], [], [], [(21, [5, 8], [72]), (21, [7, 8], [72])], [], [])
theorem oo_La_sweep_0 {kA : Nat → ClassId} : or_ok PRD kA GG o_La_sweep_0 := by
  refine or_mk fun A ta ws vs hD hth hl => ?_
  intro t5 k5 t7 k7 t8 k8
  have nf0 : fc_1 PRD (21, [5, 8], [72]) ws (vs) := by
    refine ⟨nf_in hl rfl, sgq_182 ?_⟩
    · show v_iv (n_v vs 5) + v_iv (n_v vs 8) ≤ 72
      omega
  have nf1 : fc_1 PRD (21, [7, 8], [72]) ws (vs) := by
    refine ⟨nf_in hl rfl, sgq_182 ?_⟩
    · show v_iv (n_v vs 7) + v_iv (n_v vs 8) ≤ 72
      omega
  refine ⟨(fun _ h => (by cases h)), [], trivial, ?_, (fun _ h => (by cases h))⟩
  rw [List.append_nil]
  exact List.forall_mem_cons.mpr ⟨⟨show (21 : Nat) < 100 from by decide, nf0⟩, List.forall_mem_cons.mpr ⟨⟨show (21 : Nat) < 100 from by decide, nf1⟩, (fun _ h => (by cases h))⟩⟩
def o_La_sweep_1 : or_T := (95, 11, [(7, (0, 0, 0, [])), (9, (0, 0, 0, [])), (10, (0, 0, 72, []))], [], [], [], [(21, [7, 10], [72]), (21, [9, 10], [72])], [], [])
theorem oo_La_sweep_1 {kA : Nat → ClassId} : or_ok PRD kA GG o_La_sweep_1 := by
  refine or_mk fun A ta ws vs hD hth hl => ?_
  intro t7 k7 t9 k9 t10 k10
  have nf0 : fc_1 PRD (21, [7, 10], [72]) ws (vs) := by
    refine ⟨nf_in hl rfl, sgq_182 ?_⟩
    · show v_iv (n_v vs 7) + v_iv (n_v vs 10) ≤ 72
      omega
  have nf1 : fc_1 PRD (21, [9, 10], [72]) ws (vs) := by
    refine ⟨nf_in hl rfl, sgq_182 ?_⟩
    · show v_iv (n_v vs 9) + v_iv (n_v vs 10) ≤ 72
      omega
  refine ⟨(fun _ h => (by cases h)), [], trivial, ?_, (fun _ h => (by cases h))⟩
  rw [List.append_nil]
  exact List.forall_mem_cons.mpr ⟨⟨show (21 : Nat) < 100 from by decide, nf0⟩, List.forall_mem_cons.mpr ⟨⟨show (21 : Nat) < 100 from by decide, nf1⟩, (fun _ h => (by cases h))⟩⟩
def o_La_sweep_2 : or_T := (95, 10, [(6, (0, 0, 0, [])), (8, (0, 0, 0, [])), (9, (0, 0, 72, []))], [], [], [], [(21, [6, 9], [72]), (21, [8, 9], [72])], [], [])
theorem oo_La_sweep_2 {kA : Nat → ClassId} : or_ok PRD kA GG o_La_sweep_2 := by
  refine or_mk fun A ta ws vs hD hth hl => ?_
  intro t6 k6 t8 k8 t9 k9
  have nf0 : fc_1 PRD (21, [6, 9], [72]) ws (vs) := by
    refine ⟨nf_in hl rfl, sgq_182 ?_⟩
    · show v_iv (n_v vs 6) + v_iv (n_v vs 9) ≤ 72
      omega
  have nf1 : fc_1 PRD (21, [8, 9], [72]) ws (vs) := by
    refine ⟨nf_in hl rfl, sgq_182 ?_⟩
    · show v_iv (n_v vs 8) + v_iv (n_v vs 9) ≤ 72
      omega
  refine ⟨(fun _ h => (by cases h)), [], trivial, ?_, (fun _ h => (by cases h))⟩
  rw [List.append_nil]
  exact List.forall_mem_cons.mpr ⟨⟨show (21 : Nat) < 100 from by decide, nf0⟩, List.forall_mem_cons.mpr ⟨⟨show (21 : Nat) < 100 from by decide, nf1⟩, (fun _ h => (by cases h))⟩⟩
def n_La_sweep_an : List an_T := [(7, [(0, (2, 0, 0, [4])), (1, (0, (Int.negSucc 2147483647), 2147483647, [])), (2, (0, 0, 10, []))], [], (0, 0), [(0, 0, 99993), (1, 2, 10), (0, 0, 100000), (0, 0, 0), (0, 0, 0)], [], [], [], 0, [], []), (21, [(0, (2, 0, 0, [4])), (1, (0, (Int.negSucc 2147483647), 2147483647, [])), (2, (0, 0, 9, [])), (3, (0, 1, 24, []))], [], (0, 0), [(0, 0, 99993), (1, 2, 10), (0, 0, 99979), (1, 3, 24), (0, 0, 100000)], [], [], [], 0, [], []), (53, [(0, (2, 0, 0, [4])), (1, (0, (Int.negSucc 2147483647), 2147483647, [])), (2, (0, 0, 9, [])), (3, (0, (Int.negSucc 1), 22, []))], [], (0, 0), [(0, 0, 99993), (1, 2, 10), (0, 0, 99947), (2, 3, (Int.negSucc 1)), (0, 0, 100000)], [], [], [], 0, [], []), (123, [(0, (2, 0, 0, [4])), (1, (0, (Int.negSucc 2147483647), 2147483647, [])), (2, (0, 0, 24, []))], [], (0, 0), [(0, 0, 99877), (1, 2, 24), (0, 0, 100000), (0, 0, 0), (0, 0, 0)], [], [], [], 0, [], [])]
def t_La_sweep_ct : ct_L := [(1, 233, e_La_countCrossings), (1, 236, e_La_sortLayer), (1, 239, e_La_setPlaces), (288, 219, e_acp_44), (357, 219, e_acp_45)]
set_option maxRecDepth 100000 in
theorem c_La_sweep {l : Launch} {D : va_G} {kA : Nat → ClassId} (h_La_countCrossings : ct_ok PRD l D kA GG y_La_countCrossings z_La_countCrossings e_La_countCrossings) (h_La_setPlaces : ct_ok PRD l D kA GG y_La_setPlaces z_La_setPlaces e_La_setPlaces) (h_La_sortLayer : ct_ok PRD l D kA GG y_La_sortLayer z_La_sortLayer e_La_sortLayer) : ct_ok PRD l D kA GG y_La_sweep z_La_sweep e_La_sweep := chk_all_ok (FT := [(22, 4, 2), (26, 4, 3), (51, 4, 11), (57, 4, 13)]) (PT := []) (CT := t_La_sweep_ct) (KT := []) (NT := []) (AN := n_La_sweep_an) (OT := [o_La_sweep_0, o_La_sweep_1, o_La_sweep_2]) 5 412 (List.forall_mem_cons.mpr ⟨oo_La_sweep_0, List.forall_mem_cons.mpr ⟨oo_La_sweep_1, List.forall_mem_cons.mpr ⟨oo_La_sweep_2, List.forall_mem_nil _⟩⟩⟩) (by decide +kernel) ⟨List.forall_mem_cons.mpr ⟨gf_La_22, List.forall_mem_cons.mpr ⟨gf_La_26, List.forall_mem_cons.mpr ⟨gf_La_51, List.forall_mem_cons.mpr ⟨gf_La_57, List.forall_mem_nil _⟩⟩⟩⟩, List.forall_mem_nil _, List.forall_mem_cons.mpr ⟨cl_virtual (y := y_La_countCrossings) (ci := 4) rfl rfl ⟨_, _, rfl⟩ (by decide +kernel) h_La_countCrossings wm_1432 wm_18 wm_1429 wm_1431 wv_5_14 ⟨by decide, by decide, by decide +kernel⟩ (by decide), List.forall_mem_cons.mpr ⟨cl_virtual (y := y_La_sortLayer) (ci := 4) rfl rfl ⟨_, _, rfl⟩ (by decide +kernel) h_La_sortLayer wm_1436 wm_18 wm_1433 wm_1435 wv_5_15 ⟨by decide, by decide, by decide +kernel⟩ (by decide), List.forall_mem_cons.mpr ⟨cl_virtual (y := y_La_setPlaces) (ci := 4) rfl rfl ⟨_, _, rfl⟩ (by decide +kernel) h_La_setPlaces wm_1440 wm_18 wm_1437 wm_1439 wv_6_0 ⟨by decide, by decide, by decide +kernel⟩ (by decide), List.forall_mem_cons.mpr ⟨cl_copy rfl rfl (by decide) (by decide) (by decide) wm_1387 wm_750 wm_749 wm_15, List.forall_mem_cons.mpr ⟨cl_copy rfl rfl (by decide) (by decide) (by decide) wm_1387 wm_750 wm_749 wm_15, List.forall_mem_nil _⟩⟩⟩⟩⟩, List.forall_mem_nil _, List.forall_mem_nil _, GG_pl⟩ (by decide +kernel)
def o_Ne_copyFrom_0 : or_T := (57, 10, [(2, (0, 0, 72, [])), (3, (0, 0, 72, [])), (5, (0, 0, 0, [])), (7, (0, 0, 0, [])), (8, (0, 2, 2, [])), (9, (0, 0, 144, []))], [(3, [9, 8, 3], []), (7, [2, 3], [3])], [], [], [(21, [5, 9], [144]), (21, [7, 9], [144])], [], [(2, 3, 0, 4294967296)])
theorem oo_Ne_copyFrom_0 {kA : Nat → ClassId} : or_ok PRD kA GG o_Ne_copyFrom_0 := by
  refine or_mk fun A ta ws vs hD hth hl => ?_
  intro t2 k2 t3 k3 t5 k5 t7 k7 t8 k8 t9 k9 d0 f0 f1
  replace f0 := shm_38 f0
  rw [show v_iv (n_v vs 8) = 2 from by omega] at f0
  replace f1 := shm_2 f1
  have nf0 : fc_1 PRD (21, [5, 9], [144]) ws (vs) := by
    refine ⟨nf_in hl rfl, sgq_183 ?_⟩
    · show v_iv (n_v vs 5) + v_iv (n_v vs 9) ≤ 144
      omega
  have nf1 : fc_1 PRD (21, [7, 9], [144]) ws (vs) := by
    refine ⟨nf_in hl rfl, sgq_183 ?_⟩
    · show v_iv (n_v vs 7) + v_iv (n_v vs 9) ≤ 144
      omega
  refine ⟨(fun _ h => (by cases h)), [], trivial, ?_, (fun _ h => (by cases h))⟩
  rw [List.append_nil]
  exact List.forall_mem_cons.mpr ⟨⟨show (21 : Nat) < 100 from by decide, nf0⟩, List.forall_mem_cons.mpr ⟨⟨show (21 : Nat) < 100 from by decide, nf1⟩, (fun _ h => (by cases h))⟩⟩
def o_Ne_copyFrom_1 : or_T := (74, 15, [(11, (0, 0, 0, [])), (13, (0, 0, 0, [])), (14, (0, 0, 24, []))], [], [], [], [(21, [11, 14], [25]), (21, [13, 14], [25])], [], [])
theorem oo_Ne_copyFrom_1 {kA : Nat → ClassId} : or_ok PRD kA GG o_Ne_copyFrom_1 := by
  refine or_mk fun A ta ws vs hD hth hl => ?_
  intro t11 k11 t13 k13 t14 k14
  have nf0 : fc_1 PRD (21, [11, 14], [25]) ws (vs) := by
    refine ⟨nf_in hl rfl, sgq_184 ?_⟩
    · show v_iv (n_v vs 11) + v_iv (n_v vs 14) ≤ 25
      omega
  have nf1 : fc_1 PRD (21, [13, 14], [25]) ws (vs) := by
    refine ⟨nf_in hl rfl, sgq_184 ?_⟩
    · show v_iv (n_v vs 13) + v_iv (n_v vs 14) ≤ 25
      omega
  refine ⟨(fun _ h => (by cases h)), [], trivial, ?_, (fun _ h => (by cases h))⟩
  rw [List.append_nil]
  exact List.forall_mem_cons.mpr ⟨⟨show (21 : Nat) < 100 from by decide, nf0⟩, List.forall_mem_cons.mpr ⟨⟨show (21 : Nat) < 100 from by decide, nf1⟩, (fun _ h => (by cases h))⟩⟩
def n_Ne_copyFrom_an : List an_T := [(10, [(0, (2, 0, 0, [294])), (1, (2, 0, 0, [5])), (2, (0, 0, 72, []))], [], (0, 0), [(0, 0, 99990), (1, 2, 72), (0, 0, 100000)], [], [], [], 0, [], [])]
def t_Ne_copyFrom_ct : ct_L := [(19, 73, e_Ne_begin_at_Nq), (97, 80, e_Ne_join_at_Nq_gx), (174, 100, e_acp_46), (174, 100, e_acp_48), (174, 100, e_acp_49), (174, 100, e_acp_50), (174, 100, e_acp_51), (174, 100, e_acp_52), (174, 100, e_acp_53), (174, 100, e_acp_54), (174, 100, e_acp_55), (174, 100, e_acp_56), (174, 100, e_acp_57), (174, 100, e_acp_58), (174, 100, e_acp_59), (174, 100, e_acp_60), (174, 100, e_acp_61), (174, 100, e_acp_62), (174, 100, e_acp_63), (174, 100, e_acp_64), (174, 100, e_acp_65), (174, 100, e_acp_66), (174, 100, e_acp_67), (225, 100, e_acp_47)]
set_option maxRecDepth 100000 in
theorem c_Ne_copyFrom {l : Launch} {D : va_G} {kA : Nat → ClassId} (h_Ne_begin_at_Nq : ct_ok PRD l D kA GG y_Ne_begin_at_Nq z_Ne_begin_at_Nq e_Ne_begin_at_Nq) (h_Ne_join_at_Nq_gx : ct_ok PRD l D kA GG y_Ne_join_at_Nq_gx z_Ne_join_at_Nq_gx e_Ne_join_at_Nq_gx) : ct_ok PRD l D kA GG y_Ne_copyFrom z_Ne_copyFrom e_Ne_copyFrom := chk_all_ok (FT := [(28, 5, 5), (31, 5, 6), (34, 5, 7), (37, 5, 8), (46, 5, 11), (49, 5, 12)]) (PT := []) (CT := t_Ne_copyFrom_ct) (KT := []) (NT := []) (AN := n_Ne_copyFrom_an) (OT := [o_Ne_copyFrom_0, o_Ne_copyFrom_1]) 3 200 (List.forall_mem_cons.mpr ⟨oo_Ne_copyFrom_0, List.forall_mem_cons.mpr ⟨oo_Ne_copyFrom_1, List.forall_mem_nil _⟩⟩) (by decide +kernel) ⟨List.forall_mem_cons.mpr ⟨gf_Ne_28, List.forall_mem_cons.mpr ⟨gf_Ne_31, List.forall_mem_cons.mpr ⟨gf_Ne_34, List.forall_mem_cons.mpr ⟨gf_Ne_37, List.forall_mem_cons.mpr ⟨gf_Ne_46, List.forall_mem_cons.mpr ⟨gf_Ne_49, List.forall_mem_nil _⟩⟩⟩⟩⟩⟩, List.forall_mem_nil _, List.forall_mem_cons.mpr ⟨cl_virtual (y := y_Ne_begin_at_Nq) (ci := 5) rfl rfl ⟨_, _, rfl⟩ (by decide +kernel) h_Ne_begin_at_Nq wm_1060 wm_6 wm_1057 wm_1058 wm_1059 ⟨by decide, by decide, by decide +kernel⟩ (by decide), List.forall_mem_cons.mpr ⟨cl_virtual (y := y_Ne_join_at_Nq_gx) (ci := 5) rfl rfl ⟨_, _, rfl⟩ (by decide +kernel) h_Ne_join_at_Nq_gx wm_1065 wm_6 wm_1062 wm_1063 wm_1064 ⟨by decide, by decide, by decide +kernel⟩ (by decide), List.forall_mem_cons.mpr ⟨cl_copy rfl rfl (by decide) (by decide) (by decide) wm_1513 wm_750 wm_749 wm_15, List.forall_mem_cons.mpr ⟨cl_copy rfl rfl (by decide) (by decide) (by decide) wm_1513 wm_750 wm_749 wm_15, List.forall_mem_cons.mpr ⟨cl_copy rfl rfl (by decide) (by decide) (by decide) wm_1513 wm_750 wm_749 wm_15, List.forall_mem_cons.mpr ⟨cl_copy rfl rfl (by decide) (by decide) (by decide) wm_1513 wm_750 wm_749 wm_15, List.forall_mem_cons.mpr ⟨cl_copy rfl rfl (by decide) (by decide) (by decide) wm_1513 wm_750 wm_749 wm_15, List.forall_mem_cons.mpr ⟨cl_copy rfl rfl (by decide) (by decide) (by decide) wm_1513 wm_750 wm_749 wm_15, List.forall_mem_cons.mpr ⟨cl_copy rfl rfl (by decide) (by decide) (by decide) wm_1513 wm_750 wm_749 wm_15, List.forall_mem_cons.mpr ⟨cl_copy rfl rfl (by decide) (by decide) (by decide) wm_1513 wm_750 wm_749 wm_15, List.forall_mem_cons.mpr ⟨cl_copy rfl rfl (by decide) (by decide) (by decide) wm_1513 wm_750 wm_749 wm_15, List.forall_mem_cons.mpr ⟨cl_copy rfl rfl (by decide) (by decide) (by decide) wm_1513 wm_750 wm_749 wm_15, List.forall_mem_cons.mpr ⟨cl_copy rfl rfl (by decide) (by decide) (by decide) wm_1513 wm_750 wm_749 wm_15, List.forall_mem_cons.mpr ⟨cl_copy rfl rfl (by decide) (by decide) (by decide) wm_1513 wm_750 wm_749 wm_15, List.forall_mem_cons.mpr ⟨cl_copy rfl rfl (by decide) (by decide) (by decide) wm_1513 wm_750 wm_749 wm_15, List.forall_mem_cons.mpr ⟨cl_copy rfl rfl (by decide) (by decide) (by decide) wm_1513 wm_750 wm_749 wm_15, List.forall_mem_cons.mpr ⟨cl_copy rfl rfl (by decide) (by decide) (by decide) wm_1513 wm_750 wm_749 wm_15, List.forall_mem_cons.mpr ⟨cl_copy rfl rfl (by decide) (by decide) (by decide) wm_1513 wm_750 wm_749 wm_15, List.forall_mem_cons.mpr ⟨cl_copy rfl rfl (by decide) (by decide) (by decide) wm_1513 wm_750 wm_749 wm_15, List.forall_mem_cons.mpr ⟨cl_copy rfl rfl (by decide) (by decide) (by decide) wm_1513 wm_750 wm_749 wm_15, List.forall_mem_cons.mpr ⟨cl_copy rfl rfl (by decide) (by decide) (by decide) wm_1513 wm_750 wm_749 wm_15, List.forall_mem_cons.mpr ⟨cl_copy rfl rfl (by decide) (by decide) (by decide) wm_1513 wm_750 wm_749 wm_15, List.forall_mem_cons.mpr ⟨cl_copy rfl rfl (by decide) (by decide) (by decide) wm_1513 wm_750 wm_749 wm_15, List.forall_mem_cons.mpr ⟨cl_copy rfl rfl (by decide) (by decide) (by decide) wm_1513 wm_750 wm_749 wm_15, List.forall_mem_nil _⟩⟩⟩⟩⟩⟩⟩⟩⟩⟩⟩⟩⟩⟩⟩⟩⟩⟩⟩⟩⟩⟩⟩⟩, List.forall_mem_nil _, List.forall_mem_nil _, GG_pl⟩ (by decide +kernel)
def n_Pl_findWorst_an : List an_T := [(57, [(0, (2, 0, 0, [6])), (1, (0, 0, 31, [])), (2, (0, 1, 32, [])), (3, (0, (Int.negSucc 2147483647), 2147483647, [])), (4, (0, (Int.negSucc 2147483647), 131071, [])), (5, (1, 1, 512, [])), (7, (1, 1, 512, [])), (9, (0, 0, 32, []))], [], (0, 0), [(0, 0, 99943), (1, 7, 32), (0, 0, 100000)], [], [], [], 0, [], [])]
def t_Pl_findWorst_ct : ct_L := [(42, 130, e_jMath_min1_v126), (51, 150, e_jMath_max1_v127), (108, 150, e_jMath_max1_v128), (117, 150, e_jMath_max1_v127), (285, 207, e_jMath_max2_v129), (312, 210, e_jMath_min2_v130)]
set_option maxRecDepth 100000 in
theorem c_Pl_findWorst {l : Launch} {D : va_G} {kA : Nat → ClassId} : ct_ok PRD l D kA GG y_Pl_findWorst z_Pl_findWorst e_Pl_findWorst := chk_all_ok (FT := [(45, 6, 10), (51, 6, 12), (54, 6, 13), (58, 6, 14)]) (PT := [(54, 6, 13, .long), (58, 6, 14, .long)]) (CT := t_Pl_findWorst_ct) (KT := []) (NT := []) (AN := n_Pl_findWorst_an) (OT := []) 3 336 (List.forall_mem_nil _) (by decide +kernel) ⟨List.forall_mem_cons.mpr ⟨gf_Pl_45, List.forall_mem_cons.mpr ⟨gf_Pl_51, List.forall_mem_cons.mpr ⟨gf_Pl_54, List.forall_mem_cons.mpr ⟨gf_Pl_58, List.forall_mem_nil _⟩⟩⟩⟩, List.forall_mem_cons.mpr ⟨pf_Pl_54, List.forall_mem_cons.mpr ⟨pf_Pl_58, List.forall_mem_nil _⟩⟩, List.forall_mem_cons.mpr ⟨cl_static (y := y_jMath_min1) c_jMath_min1_v126 wm_658 wm_10 wm_1716 wm_657 ⟨by decide, by decide, by decide +kernel⟩ (by decide), List.forall_mem_cons.mpr ⟨cl_static (y := y_jMath_max1) c_jMath_max1_v127 wm_836 wm_10 wm_1714 wm_835 ⟨by decide, by decide, by decide +kernel⟩ (by decide), List.forall_mem_cons.mpr ⟨cl_static (y := y_jMath_max1) c_jMath_max1_v128 wm_836 wm_10 wm_1714 wm_835 ⟨by decide, by decide, by decide +kernel⟩ (by decide), List.forall_mem_cons.mpr ⟨cl_static (y := y_jMath_max1) c_jMath_max1_v127 wm_836 wm_10 wm_1714 wm_835 ⟨by decide, by decide, by decide +kernel⟩ (by decide), List.forall_mem_cons.mpr ⟨cl_static (y := y_jMath_max2) c_jMath_max2_v129 wm_1750 wm_10 wm_1748 wm_1749 ⟨by decide, by decide, by decide +kernel⟩ (by decide), List.forall_mem_cons.mpr ⟨cl_static (y := y_jMath_min2) c_jMath_min2_v130 wm_1753 wm_10 wm_1751 wm_1752 ⟨by decide, by decide, by decide +kernel⟩ (by decide), List.forall_mem_nil _⟩⟩⟩⟩⟩⟩, List.forall_mem_nil _, List.forall_mem_nil _, GG_pl⟩ (by decide +kernel)
def o_Pl_tryRing_at_k1_0 : or_T := (48, 12, [(1, (0, 1, 1, [])), (6, (0, 8, 8, [])), (7, (0, 1, 1, [])), (9, (0, 0, 0, [])), (11, (0, 0, 0, []))], [(101, [0, 3], [8]), (7, [1, 7], [0]), (7, [1, 6], [5])], [], [], [(21, [9, 7], [24]), (21, [11, 7], [24])], [], [])
theorem oo_Pl_tryRing_at_k1_0 {kA : Nat → ClassId} : or_ok PRD kA GG o_Pl_tryRing_at_k1_0 := by
  refine or_mk fun A ta ws vs hD hth hl => ?_
  intro t1 k1 t6 k6 t7 k7 t9 k9 t11 k11 ta1 w1 le1 s1 f1 f2
  have s1 : (∀ b j, w_el ws b j = w_el w1 b j) ∧ ∀ b j, w_fd ws b j = if b = v_ad (n_v vs 0) ∧ j = 8 then n_v vs 3 else w_fd w1 b j := s1.2
  replace f1 := shm_37 f1
  replace f2 := shm_24 f2
  have nf0 : fc_1 PRD (21, [9, 7], [24]) ws (vs) := by
    refine ⟨nf_in hl rfl, sgq_140 ?_⟩
    · show v_iv (n_v vs 9) + v_iv (n_v vs 7) ≤ 24
      omega
  have nf1 : fc_1 PRD (21, [11, 7], [24]) ws (vs) := by
    refine ⟨nf_in hl rfl, sgq_140 ?_⟩
    · show v_iv (n_v vs 11) + v_iv (n_v vs 7) ≤ 24
      omega
  refine ⟨(fun _ h => (by cases h)), [], trivial, ?_, (fun _ h => (by cases h))⟩
  rw [List.append_nil]
  exact List.forall_mem_cons.mpr ⟨⟨show (21 : Nat) < 100 from by decide, nf0⟩, List.forall_mem_cons.mpr ⟨⟨show (21 : Nat) < 100 from by decide, nf1⟩, (fun _ h => (by cases h))⟩⟩
def n_Pl_tryRing_at_k1_an : List an_T := [(55, [(0, (2, 0, 0, [6])), (1, (0, 1, 1, [])), (2, (0, 1, 1, [])), (3, (0, 0, 0, [])), (4, (0, 1, 24, []))], [], (0, 0), [(0, 0, 99945), (1, 4, 24), (0, 0, 100000)], [], [((0, 0), (2, 0, 0, [3]))], [], 0, [], [])]
def t_Pl_tryRing_at_k1_ct : ct_L := [(1, 227, e_Pl_crossingsAt), (147, 175, e_acp_68), (325, 213, e_Pl_tryRing_at_k2)]
set_option maxRecDepth 100000 in
theorem c_Pl_tryRing_at_k1 {l : Launch} {D : va_G} {kA : Nat → ClassId} (h_Pl_crossingsAt : ct_ok PRD l D kA GG y_Pl_crossingsAt z_Pl_crossingsAt e_Pl_crossingsAt) (h_Pl_tryRing_at_k2 : ct_ok PRD l D kA GG y_Pl_tryRing_at_k2 z_Pl_tryRing_at_k2 e_Pl_tryRing_at_k2) : ct_ok PRD l D kA GG y_Pl_tryRing_at_k1 z_Pl_tryRing_at_k1 e_Pl_tryRing_at_k1 := chk_all_ok (FT := [(9, 6, 0), (19, 6, 2), (23, 6, 3), (38, 6, 8), (74, 3, 0)]) (PT := [(38, 6, 8, .int)]) (CT := t_Pl_tryRing_at_k1_ct) (KT := []) (NT := []) (AN := n_Pl_tryRing_at_k1_an) (OT := [o_Pl_tryRing_at_k1_0]) 3 264 (List.forall_mem_cons.mpr ⟨oo_Pl_tryRing_at_k1_0, List.forall_mem_nil _⟩) (by decide +kernel) ⟨List.forall_mem_cons.mpr ⟨gf_Pl_9, List.forall_mem_cons.mpr ⟨gf_Pl_19, List.forall_mem_cons.mpr ⟨gf_Pl_23, List.forall_mem_cons.mpr ⟨gf_Pl_38, List.forall_mem_cons.mpr ⟨gf_Pl_74, List.forall_mem_nil _⟩⟩⟩⟩⟩, List.forall_mem_cons.mpr ⟨pf_Pl_38, List.forall_mem_nil _⟩, List.forall_mem_cons.mpr ⟨cl_virtual (y := y_Pl_crossingsAt) (ci := 6) rfl rfl ⟨_, _, rfl⟩ (by decide +kernel) h_Pl_crossingsAt wm_1770 wm_21 wm_1767 wm_1769 wv_8_6 ⟨by decide, by decide, by decide +kernel⟩ (by decide), List.forall_mem_cons.mpr ⟨cl_copy rfl rfl (by decide) (by decide) (by decide) wm_1735 wm_750 wm_749 wm_15, List.forall_mem_cons.mpr ⟨cl_virtual (y := y_Pl_tryRing_at_k2) (ci := 6) rfl rfl ⟨_, _, rfl⟩ (by decide +kernel) h_Pl_tryRing_at_k2 wm_1766 wm_21 wm_1763 wm_1765 wv_8_5 ⟨by decide, by decide, by decide +kernel⟩ (by decide), List.forall_mem_nil _⟩⟩⟩, List.forall_mem_nil _, List.forall_mem_nil _, GG_pl⟩ (by decide +kernel)
def o_Pl_tryRing_at_k2_0 : or_T := (48, 12, [(1, (0, 2, 2, [])), (6, (0, 8, 8, [])), (7, (0, 2, 2, [])), (9, (0, 0, 0, [])), (11, (0, 0, 0, []))], [(101, [0, 3], [8]), (7, [1, 7], [0]), (7, [1, 6], [5])], [], [], [(21, [9, 7], [24]), (21, [11, 7], [24])], [], [])
theorem oo_Pl_tryRing_at_k2_0 {kA : Nat → ClassId} : or_ok PRD kA GG o_Pl_tryRing_at_k2_0 := by
  refine or_mk fun A ta ws vs hD hth hl => ?_
  intro t1 k1 t6 k6 t7 k7 t9 k9 t11 k11 ta1 w1 le1 s1 f1 f2
  have s1 : (∀ b j, w_el ws b j = w_el w1 b j) ∧ ∀ b j, w_fd ws b j = if b = v_ad (n_v vs 0) ∧ j = 8 then n_v vs 3 else w_fd w1 b j := s1.2
  replace f1 := shm_37 f1
  replace f2 := shm_24 f2
  have nf0 : fc_1 PRD (21, [9, 7], [24]) ws (vs) := by
    refine ⟨nf_in hl rfl, sgq_140 ?_⟩
    · show v_iv (n_v vs 9) + v_iv (n_v vs 7) ≤ 24
      omega
  have nf1 : fc_1 PRD (21, [11, 7], [24]) ws (vs) := by
    refine ⟨nf_in hl rfl, sgq_140 ?_⟩
    · show v_iv (n_v vs 11) + v_iv (n_v vs 7) ≤ 24
      omega
  refine ⟨(fun _ h => (by cases h)), [], trivial, ?_, (fun _ h => (by cases h))⟩
  rw [List.append_nil]
  exact List.forall_mem_cons.mpr ⟨⟨show (21 : Nat) < 100 from by decide, nf0⟩, List.forall_mem_cons.mpr ⟨⟨show (21 : Nat) < 100 from by decide, nf1⟩, (fun _ h => (by cases h))⟩⟩
def n_Pl_tryRing_at_k2_an : List an_T := [(55, [(0, (2, 0, 0, [6])), (1, (0, 2, 2, [])), (2, (0, 0, 16777215, [])), (3, (0, (Int.negSucc 2147483647), 2147483646, [])), (4, (0, 1, 24, []))], [], (0, 0), [(0, 0, 99945), (1, 4, 24), (0, 0, 100000)], [], [((0, 0), (2, 0, 0, [3]))], [], 0, [], [])]
def t_Pl_tryRing_at_k2_ct : ct_L := [(1, 227, e_Pl_crossingsAt), (147, 175, e_acp_69), (325, 213, e_Pl_tryRing_at_k3)]
set_option maxRecDepth 100000 in
theorem c_Pl_tryRing_at_k2 {l : Launch} {D : va_G} {kA : Nat → ClassId} (h_Pl_crossingsAt : ct_ok PRD l D kA GG y_Pl_crossingsAt z_Pl_crossingsAt e_Pl_crossingsAt) (h_Pl_tryRing_at_k3 : ct_ok PRD l D kA GG y_Pl_tryRing_at_k3 z_Pl_tryRing_at_k3 e_Pl_tryRing_at_k3) : ct_ok PRD l D kA GG y_Pl_tryRing_at_k2 z_Pl_tryRing_at_k2 e_Pl_tryRing_at_k2 := chk_all_ok (FT := [(9, 6, 0), (19, 6, 2), (23, 6, 3), (38, 6, 8), (74, 3, 0)]) (PT := [(38, 6, 8, .int)]) (CT := t_Pl_tryRing_at_k2_ct) (KT := []) (NT := []) (AN := n_Pl_tryRing_at_k2_an) (OT := [o_Pl_tryRing_at_k2_0]) 3 272 (List.forall_mem_cons.mpr ⟨oo_Pl_tryRing_at_k2_0, List.forall_mem_nil _⟩) (by decide +kernel) ⟨List.forall_mem_cons.mpr ⟨gf_Pl_9, List.forall_mem_cons.mpr ⟨gf_Pl_19, List.forall_mem_cons.mpr ⟨gf_Pl_23, List.forall_mem_cons.mpr ⟨gf_Pl_38, List.forall_mem_cons.mpr ⟨gf_Pl_74, List.forall_mem_nil _⟩⟩⟩⟩⟩, List.forall_mem_cons.mpr ⟨pf_Pl_38, List.forall_mem_nil _⟩, List.forall_mem_cons.mpr ⟨cl_virtual (y := y_Pl_crossingsAt) (ci := 6) rfl rfl ⟨_, _, rfl⟩ (by decide +kernel) h_Pl_crossingsAt wm_1770 wm_21 wm_1767 wm_1769 wv_8_6 ⟨by decide, by decide, by decide +kernel⟩ (by decide), List.forall_mem_cons.mpr ⟨cl_copy rfl rfl (by decide) (by decide) (by decide) wm_1735 wm_750 wm_749 wm_15, List.forall_mem_cons.mpr ⟨cl_virtual (y := y_Pl_tryRing_at_k3) (ci := 6) rfl rfl ⟨_, _, rfl⟩ (by decide +kernel) h_Pl_tryRing_at_k3 wm_1766 wm_21 wm_1763 wm_1765 wv_8_5 ⟨by decide, by decide, by decide +kernel⟩ (by decide), List.forall_mem_nil _⟩⟩⟩, List.forall_mem_nil _, List.forall_mem_nil _, GG_pl⟩ (by decide +kernel)
def o_Pl_tryRing_at_k3_0 : or_T := (48, 12, [(1, (0, 3, 3, [])), (6, (0, 8, 8, [])), (7, (0, 3, 3, [])), (9, (0, 0, 0, [])), (11, (0, 0, 0, []))], [(101, [0, 3], [8]), (7, [1, 7], [0]), (7, [1, 6], [5])], [], [], [(21, [9, 7], [24]), (21, [11, 7], [24])], [], [])
theorem oo_Pl_tryRing_at_k3_0 {kA : Nat → ClassId} : or_ok PRD kA GG o_Pl_tryRing_at_k3_0 := by
  refine or_mk fun A ta ws vs hD hth hl => ?_
  intro t1 k1 t6 k6 t7 k7 t9 k9 t11 k11 ta1 w1 le1 s1 f1 f2
  have s1 : (∀ b j, w_el ws b j = w_el w1 b j) ∧ ∀ b j, w_fd ws b j = if b = v_ad (n_v vs 0) ∧ j = 8 then n_v vs 3 else w_fd w1 b j := s1.2
  replace f1 := shm_37 f1
  replace f2 := shm_24 f2
  have nf0 : fc_1 PRD (21, [9, 7], [24]) ws (vs) := by
    refine ⟨nf_in hl rfl, sgq_140 ?_⟩
    · show v_iv (n_v vs 9) + v_iv (n_v vs 7) ≤ 24
      omega
  have nf1 : fc_1 PRD (21, [11, 7], [24]) ws (vs) := by
    refine ⟨nf_in hl rfl, sgq_140 ?_⟩
    · show v_iv (n_v vs 11) + v_iv (n_v vs 7) ≤ 24
      omega
  refine ⟨(fun _ h => (by cases h)), [], trivial, ?_, (fun _ h => (by cases h))⟩
  rw [List.append_nil]
  exact List.forall_mem_cons.mpr ⟨⟨show (21 : Nat) < 100 from by decide, nf0⟩, List.forall_mem_cons.mpr ⟨⟨show (21 : Nat) < 100 from by decide, nf1⟩, (fun _ h => (by cases h))⟩⟩
def n_Pl_tryRing_at_k3_an : List an_T := [(55, [(0, (2, 0, 0, [6])), (1, (0, 3, 3, [])), (2, (0, 0, 16777215, [])), (3, (0, (Int.negSucc 2147483647), 2147483646, [])), (4, (0, 1, 24, []))], [], (0, 0), [(0, 0, 99945), (1, 4, 24), (0, 0, 100000)], [], [((0, 0), (2, 0, 0, [3]))], [], 0, [], [])]
def t_Pl_tryRing_at_k3_ct : ct_L := [(1, 227, e_Pl_crossingsAt), (147, 175, e_acp_70), (325, 213, e_Pl_tryRing_at_k4)]
set_option maxRecDepth 100000 in
theorem c_Pl_tryRing_at_k3 {l : Launch} {D : va_G} {kA : Nat → ClassId} (h_Pl_crossingsAt : ct_ok PRD l D kA GG y_Pl_crossingsAt z_Pl_crossingsAt e_Pl_crossingsAt) (h_Pl_tryRing_at_k4 : ct_ok PRD l D kA GG y_Pl_tryRing_at_k4 z_Pl_tryRing_at_k4 e_Pl_tryRing_at_k4) : ct_ok PRD l D kA GG y_Pl_tryRing_at_k3 z_Pl_tryRing_at_k3 e_Pl_tryRing_at_k3 := chk_all_ok (FT := [(9, 6, 0), (19, 6, 2), (23, 6, 3), (38, 6, 8), (74, 3, 0)]) (PT := [(38, 6, 8, .int)]) (CT := t_Pl_tryRing_at_k3_ct) (KT := []) (NT := []) (AN := n_Pl_tryRing_at_k3_an) (OT := [o_Pl_tryRing_at_k3_0]) 3 272 (List.forall_mem_cons.mpr ⟨oo_Pl_tryRing_at_k3_0, List.forall_mem_nil _⟩) (by decide +kernel) ⟨List.forall_mem_cons.mpr ⟨gf_Pl_9, List.forall_mem_cons.mpr ⟨gf_Pl_19, List.forall_mem_cons.mpr ⟨gf_Pl_23, List.forall_mem_cons.mpr ⟨gf_Pl_38, List.forall_mem_cons.mpr ⟨gf_Pl_74, List.forall_mem_nil _⟩⟩⟩⟩⟩, List.forall_mem_cons.mpr ⟨pf_Pl_38, List.forall_mem_nil _⟩, List.forall_mem_cons.mpr ⟨cl_virtual (y := y_Pl_crossingsAt) (ci := 6) rfl rfl ⟨_, _, rfl⟩ (by decide +kernel) h_Pl_crossingsAt wm_1770 wm_21 wm_1767 wm_1769 wv_8_6 ⟨by decide, by decide, by decide +kernel⟩ (by decide), List.forall_mem_cons.mpr ⟨cl_copy rfl rfl (by decide) (by decide) (by decide) wm_1735 wm_750 wm_749 wm_15, List.forall_mem_cons.mpr ⟨cl_virtual (y := y_Pl_tryRing_at_k4) (ci := 6) rfl rfl ⟨_, _, rfl⟩ (by decide +kernel) h_Pl_tryRing_at_k4 wm_1766 wm_21 wm_1763 wm_1765 wv_8_5 ⟨by decide, by decide, by decide +kernel⟩ (by decide), List.forall_mem_nil _⟩⟩⟩, List.forall_mem_nil _, List.forall_mem_nil _, GG_pl⟩ (by decide +kernel)
def o_Pl_tryRing_at_k4_0 : or_T := (48, 12, [(1, (0, 4, 4, [])), (6, (0, 8, 8, [])), (7, (0, 4, 4, [])), (9, (0, 0, 0, [])), (11, (0, 0, 0, []))], [(101, [0, 3], [8]), (7, [1, 7], [0]), (7, [1, 6], [5])], [], [], [(21, [9, 7], [24]), (21, [11, 7], [24])], [], [])
theorem oo_Pl_tryRing_at_k4_0 {kA : Nat → ClassId} : or_ok PRD kA GG o_Pl_tryRing_at_k4_0 := by
  refine or_mk fun A ta ws vs hD hth hl => ?_
  intro t1 k1 t6 k6 t7 k7 t9 k9 t11 k11 ta1 w1 le1 s1 f1 f2
  have s1 : (∀ b j, w_el ws b j = w_el w1 b j) ∧ ∀ b j, w_fd ws b j = if b = v_ad (n_v vs 0) ∧ j = 8 then n_v vs 3 else w_fd w1 b j := s1.2
  replace f1 := shm_37 f1
  replace f2 := shm_24 f2
  have nf0 : fc_1 PRD (21, [9, 7], [24]) ws (vs) := by
    refine ⟨nf_in hl rfl, sgq_140 ?_⟩
    · show v_iv (n_v vs 9) + v_iv (n_v vs 7) ≤ 24
      omega
  have nf1 : fc_1 PRD (21, [11, 7], [24]) ws (vs) := by
    refine ⟨nf_in hl rfl, sgq_140 ?_⟩
    · show v_iv (n_v vs 11) + v_iv (n_v vs 7) ≤ 24
      omega
  refine ⟨(fun _ h => (by cases h)), [], trivial, ?_, (fun _ h => (by cases h))⟩
  rw [List.append_nil]
  exact List.forall_mem_cons.mpr ⟨⟨show (21 : Nat) < 100 from by decide, nf0⟩, List.forall_mem_cons.mpr ⟨⟨show (21 : Nat) < 100 from by decide, nf1⟩, (fun _ h => (by cases h))⟩⟩
def n_Pl_tryRing_at_k4_an : List an_T := [(55, [(0, (2, 0, 0, [6])), (1, (0, 4, 4, [])), (2, (0, 0, 16777215, [])), (3, (0, (Int.negSucc 2147483647), 2147483646, [])), (4, (0, 1, 24, []))], [], (0, 0), [(0, 0, 99945), (1, 4, 24), (0, 0, 100000)], [], [((0, 0), (2, 0, 0, [3]))], [], 0, [], [])]
def t_Pl_tryRing_at_k4_ct : ct_L := [(1, 227, e_Pl_crossingsAt), (147, 175, e_acp_71), (325, 213, e_Pl_tryRing_at_k5)]
set_option maxRecDepth 100000 in
theorem c_Pl_tryRing_at_k4 {l : Launch} {D : va_G} {kA : Nat → ClassId} (h_Pl_crossingsAt : ct_ok PRD l D kA GG y_Pl_crossingsAt z_Pl_crossingsAt e_Pl_crossingsAt) (h_Pl_tryRing_at_k5 : ct_ok PRD l D kA GG y_Pl_tryRing_at_k5 z_Pl_tryRing_at_k5 e_Pl_tryRing_at_k5) : ct_ok PRD l D kA GG y_Pl_tryRing_at_k4 z_Pl_tryRing_at_k4 e_Pl_tryRing_at_k4 := chk_all_ok (FT := [(9, 6, 0), (19, 6, 2), (23, 6, 3), (38, 6, 8), (74, 3, 0)]) (PT := [(38, 6, 8, .int)]) (CT := t_Pl_tryRing_at_k4_ct) (KT := []) (NT := []) (AN := n_Pl_tryRing_at_k4_an) (OT := [o_Pl_tryRing_at_k4_0]) 3 272 (List.forall_mem_cons.mpr ⟨oo_Pl_tryRing_at_k4_0, List.forall_mem_nil _⟩) (by decide +kernel) ⟨List.forall_mem_cons.mpr ⟨gf_Pl_9, List.forall_mem_cons.mpr ⟨gf_Pl_19, List.forall_mem_cons.mpr ⟨gf_Pl_23, List.forall_mem_cons.mpr ⟨gf_Pl_38, List.forall_mem_cons.mpr ⟨gf_Pl_74, List.forall_mem_nil _⟩⟩⟩⟩⟩, List.forall_mem_cons.mpr ⟨pf_Pl_38, List.forall_mem_nil _⟩, List.forall_mem_cons.mpr ⟨cl_virtual (y := y_Pl_crossingsAt) (ci := 6) rfl rfl ⟨_, _, rfl⟩ (by decide +kernel) h_Pl_crossingsAt wm_1770 wm_21 wm_1767 wm_1769 wv_8_6 ⟨by decide, by decide, by decide +kernel⟩ (by decide), List.forall_mem_cons.mpr ⟨cl_copy rfl rfl (by decide) (by decide) (by decide) wm_1735 wm_750 wm_749 wm_15, List.forall_mem_cons.mpr ⟨cl_virtual (y := y_Pl_tryRing_at_k5) (ci := 6) rfl rfl ⟨_, _, rfl⟩ (by decide +kernel) h_Pl_tryRing_at_k5 wm_1766 wm_21 wm_1763 wm_1765 wv_8_5 ⟨by decide, by decide, by decide +kernel⟩ (by decide), List.forall_mem_nil _⟩⟩⟩, List.forall_mem_nil _, List.forall_mem_nil _, GG_pl⟩ (by decide +kernel)
def o_Pl_tryRing_at_k5_0 : or_T := (48, 12, [(1, (0, 5, 5, [])), (6, (0, 8, 8, [])), (7, (0, 5, 5, [])), (9, (0, 0, 0, [])), (11, (0, 0, 0, []))], [(101, [0, 3], [8]), (7, [1, 7], [0]), (7, [1, 6], [5])], [], [], [(21, [9, 7], [24]), (21, [11, 7], [24])], [], [])
theorem oo_Pl_tryRing_at_k5_0 {kA : Nat → ClassId} : or_ok PRD kA GG o_Pl_tryRing_at_k5_0 := by
  refine or_mk fun A ta ws vs hD hth hl => ?_
  intro t1 k1 t6 k6 t7 k7 t9 k9 t11 k11 ta1 w1 le1 s1 f1 f2
  have s1 : (∀ b j, w_el ws b j = w_el w1 b j) ∧ ∀ b j, w_fd ws b j = if b = v_ad (n_v vs 0) ∧ j = 8 then n_v vs 3 else w_fd w1 b j := s1.2
  replace f1 := shm_37 f1
  replace f2 := shm_24 f2
  have nf0 : fc_1 PRD (21, [9, 7], [24]) ws (vs) := by
    refine ⟨nf_in hl rfl, sgq_140 ?_⟩
    · show v_iv (n_v vs 9) + v_iv (n_v vs 7) ≤ 24
      omega
  have nf1 : fc_1 PRD (21, [11, 7], [24]) ws (vs) := by
    refine ⟨nf_in hl rfl, sgq_140 ?_⟩
    · show v_iv (n_v vs 11) + v_iv (n_v vs 7) ≤ 24
      omega
  refine ⟨(fun _ h => (by cases h)), [], trivial, ?_, (fun _ h => (by cases h))⟩
  rw [List.append_nil]
  exact List.forall_mem_cons.mpr ⟨⟨show (21 : Nat) < 100 from by decide, nf0⟩, List.forall_mem_cons.mpr ⟨⟨show (21 : Nat) < 100 from by decide, nf1⟩, (fun _ h => (by cases h))⟩⟩
def n_Pl_tryRing_at_k5_an : List an_T := [(55, [(0, (2, 0, 0, [6])), (1, (0, 5, 5, [])), (2, (0, 0, 16777215, [])), (3, (0, (Int.negSucc 2147483647), 2147483646, [])), (4, (0, 1, 24, []))], [], (0, 0), [(0, 0, 99945), (1, 4, 24), (0, 0, 100000)], [], [((0, 0), (2, 0, 0, [3]))], [], 0, [], [])]
def t_Pl_tryRing_at_k5_ct : ct_L := [(1, 227, e_Pl_crossingsAt), (147, 175, e_acp_72), (325, 213, e_Pl_tryRing_at_k6)]
set_option maxRecDepth 100000 in
theorem c_Pl_tryRing_at_k5 {l : Launch} {D : va_G} {kA : Nat → ClassId} (h_Pl_crossingsAt : ct_ok PRD l D kA GG y_Pl_crossingsAt z_Pl_crossingsAt e_Pl_crossingsAt) (h_Pl_tryRing_at_k6 : ct_ok PRD l D kA GG y_Pl_tryRing_at_k6 z_Pl_tryRing_at_k6 e_Pl_tryRing_at_k6) : ct_ok PRD l D kA GG y_Pl_tryRing_at_k5 z_Pl_tryRing_at_k5 e_Pl_tryRing_at_k5 := chk_all_ok (FT := [(9, 6, 0), (19, 6, 2), (23, 6, 3), (38, 6, 8), (74, 3, 0)]) (PT := [(38, 6, 8, .int)]) (CT := t_Pl_tryRing_at_k5_ct) (KT := []) (NT := []) (AN := n_Pl_tryRing_at_k5_an) (OT := [o_Pl_tryRing_at_k5_0]) 3 272 (List.forall_mem_cons.mpr ⟨oo_Pl_tryRing_at_k5_0, List.forall_mem_nil _⟩) (by decide +kernel) ⟨List.forall_mem_cons.mpr ⟨gf_Pl_9, List.forall_mem_cons.mpr ⟨gf_Pl_19, List.forall_mem_cons.mpr ⟨gf_Pl_23, List.forall_mem_cons.mpr ⟨gf_Pl_38, List.forall_mem_cons.mpr ⟨gf_Pl_74, List.forall_mem_nil _⟩⟩⟩⟩⟩, List.forall_mem_cons.mpr ⟨pf_Pl_38, List.forall_mem_nil _⟩, List.forall_mem_cons.mpr ⟨cl_virtual (y := y_Pl_crossingsAt) (ci := 6) rfl rfl ⟨_, _, rfl⟩ (by decide +kernel) h_Pl_crossingsAt wm_1770 wm_21 wm_1767 wm_1769 wv_8_6 ⟨by decide, by decide, by decide +kernel⟩ (by decide), List.forall_mem_cons.mpr ⟨cl_copy rfl rfl (by decide) (by decide) (by decide) wm_1735 wm_750 wm_749 wm_15, List.forall_mem_cons.mpr ⟨cl_virtual (y := y_Pl_tryRing_at_k6) (ci := 6) rfl rfl ⟨_, _, rfl⟩ (by decide +kernel) h_Pl_tryRing_at_k6 wm_1766 wm_21 wm_1763 wm_1765 wv_8_5 ⟨by decide, by decide, by decide +kernel⟩ (by decide), List.forall_mem_nil _⟩⟩⟩, List.forall_mem_nil _, List.forall_mem_nil _, GG_pl⟩ (by decide +kernel)
def o_Pl_tryRing_at_k6_0 : or_T := (48, 12, [(1, (0, 6, 6, [])), (6, (0, 8, 8, [])), (7, (0, 6, 6, [])), (9, (0, 0, 0, [])), (11, (0, 0, 0, []))], [(101, [0, 3], [8]), (7, [1, 7], [0]), (7, [1, 6], [5])], [], [], [(21, [9, 7], [24]), (21, [11, 7], [24])], [], [])
theorem oo_Pl_tryRing_at_k6_0 {kA : Nat → ClassId} : or_ok PRD kA GG o_Pl_tryRing_at_k6_0 := by
  refine or_mk fun A ta ws vs hD hth hl => ?_
  intro t1 k1 t6 k6 t7 k7 t9 k9 t11 k11 ta1 w1 le1 s1 f1 f2
  have s1 : (∀ b j, w_el ws b j = w_el w1 b j) ∧ ∀ b j, w_fd ws b j = if b = v_ad (n_v vs 0) ∧ j = 8 then n_v vs 3 else w_fd w1 b j := s1.2
  replace f1 := shm_37 f1
  replace f2 := shm_24 f2
  have nf0 : fc_1 PRD (21, [9, 7], [24]) ws (vs) := by
    refine ⟨nf_in hl rfl, sgq_140 ?_⟩
    · show v_iv (n_v vs 9) + v_iv (n_v vs 7) ≤ 24
      omega
  have nf1 : fc_1 PRD (21, [11, 7], [24]) ws (vs) := by
    refine ⟨nf_in hl rfl, sgq_140 ?_⟩
    · show v_iv (n_v vs 11) + v_iv (n_v vs 7) ≤ 24
      omega
  refine ⟨(fun _ h => (by cases h)), [], trivial, ?_, (fun _ h => (by cases h))⟩
  rw [List.append_nil]
  exact List.forall_mem_cons.mpr ⟨⟨show (21 : Nat) < 100 from by decide, nf0⟩, List.forall_mem_cons.mpr ⟨⟨show (21 : Nat) < 100 from by decide, nf1⟩, (fun _ h => (by cases h))⟩⟩
def n_Pl_tryRing_at_k6_an : List an_T := [(55, [(0, (2, 0, 0, [6])), (1, (0, 6, 6, [])), (2, (0, 0, 16777215, [])), (3, (0, (Int.negSucc 2147483647), 2147483646, [])), (4, (0, 1, 24, []))], [], (0, 0), [(0, 0, 99945), (1, 4, 24), (0, 0, 100000)], [], [((0, 0), (2, 0, 0, [3]))], [], 0, [], [])]
def t_Pl_tryRing_at_k6_ct : ct_L := [(1, 227, e_Pl_crossingsAt), (147, 175, e_acp_73), (325, 213, e_Pl_tryRing_at_k7)]
set_option maxRecDepth 100000 in
theorem c_Pl_tryRing_at_k6 {l : Launch} {D : va_G} {kA : Nat → ClassId} (h_Pl_crossingsAt : ct_ok PRD l D kA GG y_Pl_crossingsAt z_Pl_crossingsAt e_Pl_crossingsAt) (h_Pl_tryRing_at_k7 : ct_ok PRD l D kA GG y_Pl_tryRing_at_k7 z_Pl_tryRing_at_k7 e_Pl_tryRing_at_k7) : ct_ok PRD l D kA GG y_Pl_tryRing_at_k6 z_Pl_tryRing_at_k6 e_Pl_tryRing_at_k6 := chk_all_ok (FT := [(9, 6, 0), (19, 6, 2), (23, 6, 3), (38, 6, 8), (74, 3, 0)]) (PT := [(38, 6, 8, .int)]) (CT := t_Pl_tryRing_at_k6_ct) (KT := []) (NT := []) (AN := n_Pl_tryRing_at_k6_an) (OT := [o_Pl_tryRing_at_k6_0]) 3 272 (List.forall_mem_cons.mpr ⟨oo_Pl_tryRing_at_k6_0, List.forall_mem_nil _⟩) (by decide +kernel) ⟨List.forall_mem_cons.mpr ⟨gf_Pl_9, List.forall_mem_cons.mpr ⟨gf_Pl_19, List.forall_mem_cons.mpr ⟨gf_Pl_23, List.forall_mem_cons.mpr ⟨gf_Pl_38, List.forall_mem_cons.mpr ⟨gf_Pl_74, List.forall_mem_nil _⟩⟩⟩⟩⟩, List.forall_mem_cons.mpr ⟨pf_Pl_38, List.forall_mem_nil _⟩, List.forall_mem_cons.mpr ⟨cl_virtual (y := y_Pl_crossingsAt) (ci := 6) rfl rfl ⟨_, _, rfl⟩ (by decide +kernel) h_Pl_crossingsAt wm_1770 wm_21 wm_1767 wm_1769 wv_8_6 ⟨by decide, by decide, by decide +kernel⟩ (by decide), List.forall_mem_cons.mpr ⟨cl_copy rfl rfl (by decide) (by decide) (by decide) wm_1735 wm_750 wm_749 wm_15, List.forall_mem_cons.mpr ⟨cl_virtual (y := y_Pl_tryRing_at_k7) (ci := 6) rfl rfl ⟨_, _, rfl⟩ (by decide +kernel) h_Pl_tryRing_at_k7 wm_1766 wm_21 wm_1763 wm_1765 wv_8_5 ⟨by decide, by decide, by decide +kernel⟩ (by decide), List.forall_mem_nil _⟩⟩⟩, List.forall_mem_nil _, List.forall_mem_nil _, GG_pl⟩ (by decide +kernel)
def o_Pl_tryRing_at_k7_0 : or_T := (48, 12, [(1, (0, 7, 7, [])), (6, (0, 8, 8, [])), (7, (0, 7, 7, [])), (9, (0, 0, 0, [])), (11, (0, 0, 0, []))], [(101, [0, 3], [8]), (7, [1, 7], [0]), (7, [1, 6], [5])], [], [], [(21, [9, 7], [24]), (21, [11, 7], [24])], [], [])
theorem oo_Pl_tryRing_at_k7_0 {kA : Nat → ClassId} : or_ok PRD kA GG o_Pl_tryRing_at_k7_0 := by
  refine or_mk fun A ta ws vs hD hth hl => ?_
  intro t1 k1 t6 k6 t7 k7 t9 k9 t11 k11 ta1 w1 le1 s1 f1 f2
  have s1 : (∀ b j, w_el ws b j = w_el w1 b j) ∧ ∀ b j, w_fd ws b j = if b = v_ad (n_v vs 0) ∧ j = 8 then n_v vs 3 else w_fd w1 b j := s1.2
  replace f1 := shm_37 f1
  replace f2 := shm_24 f2
  have nf0 : fc_1 PRD (21, [9, 7], [24]) ws (vs) := by
    refine ⟨nf_in hl rfl, sgq_140 ?_⟩
    · show v_iv (n_v vs 9) + v_iv (n_v vs 7) ≤ 24
      omega
  have nf1 : fc_1 PRD (21, [11, 7], [24]) ws (vs) := by
    refine ⟨nf_in hl rfl, sgq_140 ?_⟩
    · show v_iv (n_v vs 11) + v_iv (n_v vs 7) ≤ 24
      omega
  refine ⟨(fun _ h => (by cases h)), [], trivial, ?_, (fun _ h => (by cases h))⟩
  rw [List.append_nil]
  exact List.forall_mem_cons.mpr ⟨⟨show (21 : Nat) < 100 from by decide, nf0⟩, List.forall_mem_cons.mpr ⟨⟨show (21 : Nat) < 100 from by decide, nf1⟩, (fun _ h => (by cases h))⟩⟩
def n_Pl_tryRing_at_k7_an : List an_T := [(55, [(0, (2, 0, 0, [6])), (1, (0, 7, 7, [])), (2, (0, 0, 16777215, [])), (3, (0, (Int.negSucc 2147483647), 2147483646, [])), (4, (0, 1, 24, []))], [], (0, 0), [(0, 0, 99945), (1, 4, 24), (0, 0, 100000)], [], [((0, 0), (2, 0, 0, [3]))], [], 0, [], [])]
def t_Pl_tryRing_at_k7_ct : ct_L := [(1, 227, e_Pl_crossingsAt), (147, 175, e_acp_74), (325, 213, e_Pl_tryRing_at_k8)]
set_option maxRecDepth 100000 in
theorem c_Pl_tryRing_at_k7 {l : Launch} {D : va_G} {kA : Nat → ClassId} (h_Pl_crossingsAt : ct_ok PRD l D kA GG y_Pl_crossingsAt z_Pl_crossingsAt e_Pl_crossingsAt) (h_Pl_tryRing_at_k8 : ct_ok PRD l D kA GG y_Pl_tryRing_at_k8 z_Pl_tryRing_at_k8 e_Pl_tryRing_at_k8) : ct_ok PRD l D kA GG y_Pl_tryRing_at_k7 z_Pl_tryRing_at_k7 e_Pl_tryRing_at_k7 := chk_all_ok (FT := [(9, 6, 0), (19, 6, 2), (23, 6, 3), (38, 6, 8), (74, 3, 0)]) (PT := [(38, 6, 8, .int)]) (CT := t_Pl_tryRing_at_k7_ct) (KT := []) (NT := []) (AN := n_Pl_tryRing_at_k7_an) (OT := [o_Pl_tryRing_at_k7_0]) 3 272 (List.forall_mem_cons.mpr ⟨oo_Pl_tryRing_at_k7_0, List.forall_mem_nil _⟩) (by decide +kernel) ⟨List.forall_mem_cons.mpr ⟨gf_Pl_9, List.forall_mem_cons.mpr ⟨gf_Pl_19, List.forall_mem_cons.mpr ⟨gf_Pl_23, List.forall_mem_cons.mpr ⟨gf_Pl_38, List.forall_mem_cons.mpr ⟨gf_Pl_74, List.forall_mem_nil _⟩⟩⟩⟩⟩, List.forall_mem_cons.mpr ⟨pf_Pl_38, List.forall_mem_nil _⟩, List.forall_mem_cons.mpr ⟨cl_virtual (y := y_Pl_crossingsAt) (ci := 6) rfl rfl ⟨_, _, rfl⟩ (by decide +kernel) h_Pl_crossingsAt wm_1770 wm_21 wm_1767 wm_1769 wv_8_6 ⟨by decide, by decide, by decide +kernel⟩ (by decide), List.forall_mem_cons.mpr ⟨cl_copy rfl rfl (by decide) (by decide) (by decide) wm_1735 wm_750 wm_749 wm_15, List.forall_mem_cons.mpr ⟨cl_virtual (y := y_Pl_tryRing_at_k8) (ci := 6) rfl rfl ⟨_, _, rfl⟩ (by decide +kernel) h_Pl_tryRing_at_k8 wm_1766 wm_21 wm_1763 wm_1765 wv_8_5 ⟨by decide, by decide, by decide +kernel⟩ (by decide), List.forall_mem_nil _⟩⟩⟩, List.forall_mem_nil _, List.forall_mem_nil _, GG_pl⟩ (by decide +kernel)
def o_Pl_tryRing_at_k8_0 : or_T := (48, 12, [(1, (0, 8, 8, [])), (6, (0, 8, 8, [])), (7, (0, 8, 8, [])), (9, (0, 0, 0, [])), (11, (0, 0, 0, []))], [(101, [0, 3], [8]), (7, [1, 7], [0]), (7, [1, 6], [5])], [], [], [(21, [9, 7], [24]), (21, [11, 7], [24])], [], [])
theorem oo_Pl_tryRing_at_k8_0 {kA : Nat → ClassId} : or_ok PRD kA GG o_Pl_tryRing_at_k8_0 := by
  refine or_mk fun A ta ws vs hD hth hl => ?_
  intro t1 k1 t6 k6 t7 k7 t9 k9 t11 k11 ta1 w1 le1 s1 f1 f2
  have s1 : (∀ b j, w_el ws b j = w_el w1 b j) ∧ ∀ b j, w_fd ws b j = if b = v_ad (n_v vs 0) ∧ j = 8 then n_v vs 3 else w_fd w1 b j := s1.2
  replace f1 := shm_37 f1
  replace f2 := shm_24 f2
  have nf0 : fc_1 PRD (21, [9, 7], [24]) ws (vs) := by
    refine ⟨nf_in hl rfl, sgq_140 ?_⟩
    · show v_iv (n_v vs 9) + v_iv (n_v vs 7) ≤ 24
      omega
  have nf1 : fc_1 PRD (21, [11, 7], [24]) ws (vs) := by
    refine ⟨nf_in hl rfl, sgq_140 ?_⟩
    · show v_iv (n_v vs 11) + v_iv (n_v vs 7) ≤ 24
      omega
  refine ⟨(fun _ h => (by cases h)), [], trivial, ?_, (fun _ h => (by cases h))⟩
  rw [List.append_nil]
  exact List.forall_mem_cons.mpr ⟨⟨show (21 : Nat) < 100 from by decide, nf0⟩, List.forall_mem_cons.mpr ⟨⟨show (21 : Nat) < 100 from by decide, nf1⟩, (fun _ h => (by cases h))⟩⟩
def n_Pl_tryRing_at_k8_an : List an_T := [(55, [(0, (2, 0, 0, [6])), (1, (0, 8, 8, [])), (2, (0, 0, 16777215, [])), (3, (0, (Int.negSucc 2147483647), 2147483646, [])), (4, (0, 1, 24, []))], [], (0, 0), [(0, 0, 99945), (1, 4, 24), (0, 0, 100000)], [], [((0, 0), (2, 0, 0, [3]))], [], 0, [], [])]
def t_Pl_tryRing_at_k8_ct : ct_L := [(1, 227, e_Pl_crossingsAt), (147, 175, e_acp_75), (325, 213, e_Pl_tryRing_at_k9)]
set_option maxRecDepth 100000 in
theorem c_Pl_tryRing_at_k8 {l : Launch} {D : va_G} {kA : Nat → ClassId} (h_Pl_crossingsAt : ct_ok PRD l D kA GG y_Pl_crossingsAt z_Pl_crossingsAt e_Pl_crossingsAt) (h_Pl_tryRing_at_k9 : ct_ok PRD l D kA GG y_Pl_tryRing_at_k9 z_Pl_tryRing_at_k9 e_Pl_tryRing_at_k9) : ct_ok PRD l D kA GG y_Pl_tryRing_at_k8 z_Pl_tryRing_at_k8 e_Pl_tryRing_at_k8 := chk_all_ok (FT := [(9, 6, 0), (19, 6, 2), (23, 6, 3), (38, 6, 8), (74, 3, 0)]) (PT := [(38, 6, 8, .int)]) (CT := t_Pl_tryRing_at_k8_ct) (KT := []) (NT := []) (AN := n_Pl_tryRing_at_k8_an) (OT := [o_Pl_tryRing_at_k8_0]) 3 272 (List.forall_mem_cons.mpr ⟨oo_Pl_tryRing_at_k8_0, List.forall_mem_nil _⟩) (by decide +kernel) ⟨List.forall_mem_cons.mpr ⟨gf_Pl_9, List.forall_mem_cons.mpr ⟨gf_Pl_19, List.forall_mem_cons.mpr ⟨gf_Pl_23, List.forall_mem_cons.mpr ⟨gf_Pl_38, List.forall_mem_cons.mpr ⟨gf_Pl_74, List.forall_mem_nil _⟩⟩⟩⟩⟩, List.forall_mem_cons.mpr ⟨pf_Pl_38, List.forall_mem_nil _⟩, List.forall_mem_cons.mpr ⟨cl_virtual (y := y_Pl_crossingsAt) (ci := 6) rfl rfl ⟨_, _, rfl⟩ (by decide +kernel) h_Pl_crossingsAt wm_1770 wm_21 wm_1767 wm_1769 wv_8_6 ⟨by decide, by decide, by decide +kernel⟩ (by decide), List.forall_mem_cons.mpr ⟨cl_copy rfl rfl (by decide) (by decide) (by decide) wm_1735 wm_750 wm_749 wm_15, List.forall_mem_cons.mpr ⟨cl_virtual (y := y_Pl_tryRing_at_k9) (ci := 6) rfl rfl ⟨_, _, rfl⟩ (by decide +kernel) h_Pl_tryRing_at_k9 wm_1766 wm_21 wm_1763 wm_1765 wv_8_5 ⟨by decide, by decide, by decide +kernel⟩ (by decide), List.forall_mem_nil _⟩⟩⟩, List.forall_mem_nil _, List.forall_mem_nil _, GG_pl⟩ (by decide +kernel)
def o_Pl_tryRing_at_k9_0 : or_T := (1000000, 0, [], [], [], [], [], [], [])
theorem oo_Pl_tryRing_at_k9_0 {kA : Nat → ClassId} : or_ok PRD kA GG o_Pl_tryRing_at_k9_0 := fun _ _ _ _ _ _ _ _ _ _ => ⟨fun q h => (by cases h), [], trivial, fun f h => (by cases h), fun q h => (by cases h)⟩
def n_Pl_tryRing_at_k9_an : List an_T := []
def t_Pl_tryRing_at_k9_ct : ct_L := []
set_option maxRecDepth 100000 in
theorem c_Pl_tryRing_at_k9 {l : Launch} {D : va_G} {kA : Nat → ClassId} : ct_ok PRD l D kA GG y_Pl_tryRing_at_k9 z_Pl_tryRing_at_k9 e_Pl_tryRing_at_k9 := chk_all_ok (FT := [(9, 6, 0), (19, 6, 2), (23, 6, 3), (38, 6, 8), (74, 3, 0)]) (PT := [(38, 6, 8, .int)]) (CT := t_Pl_tryRing_at_k9_ct) (KT := []) (NT := []) (AN := n_Pl_tryRing_at_k9_an) (OT := [o_Pl_tryRing_at_k9_0]) 0 200 (List.forall_mem_cons.mpr ⟨oo_Pl_tryRing_at_k9_0, List.forall_mem_nil _⟩) (by decide +kernel) ⟨List.forall_mem_cons.mpr ⟨gf_Pl_9, List.forall_mem_cons.mpr ⟨gf_Pl_19, List.forall_mem_cons.mpr ⟨gf_Pl_23, List.forall_mem_cons.mpr ⟨gf_Pl_38, List.forall_mem_cons.mpr ⟨gf_Pl_74, List.forall_mem_nil _⟩⟩⟩⟩⟩, List.forall_mem_cons.mpr ⟨pf_Pl_38, List.forall_mem_nil _⟩, List.forall_mem_nil _, List.forall_mem_nil _, List.forall_mem_nil _, GG_pl⟩ (by decide +kernel)
def n_Pn_openLine_an : List an_T := [(45, [(0, (2, 0, 0, [7])), (1, (0, 1, 22, [])), (2, (0, 0, 16777215, [])), (3, (0, 0, 23, [])), (4, (0, 0, 23, [])), (5, (0, 0, 23, [])), (6, (0, (Int.negSucc 0), 71, [])), (7, (0, 0, 24, [])), (8, (0, 0, 72, []))], [], (0, 0), [(0, 0, 99955), (1, 8, 72), (0, 0, 100000)], [], [], [], 0, [], []), (115, [(0, (2, 0, 0, [7])), (1, (0, 1, 22, [])), (2, (0, 0, 16777215, [])), (3, (0, 0, 23, [])), (4, (0, 0, 23, [])), (5, (0, 0, 23, [])), (6, (0, 0, 71, [])), (7, (0, 0, 24, [])), (8, (0, 0, 71, []))], [(0, 0, 23, [])], (0, 0), [(0, 0, 99955), (1, 8, 72), (0, 0, 99885)], [], [], [], 0, [], []), (155, [(0, (2, 0, 0, [7])), (1, (0, 1, 22, [])), (2, (0, 0, 16777215, [])), (3, (0, 0, 23, [])), (4, (0, 0, 23, [])), (5, (0, 0, 23, [])), (6, (0, 0, 71, [])), (7, (0, 0, 24, [])), (8, (0, 0, 71, [])), (9, (0, 0, 23, []))], [], (0, 0), [(0, 0, 99955), (1, 8, 72), (0, 0, 99845)], [], [], [], 0, [], []), (161, [(0, (2, 0, 0, [7])), (1, (0, 1, 22, [])), (2, (0, 0, 16777215, [])), (3, (0, 0, 23, [])), (4, (0, 0, 23, [])), (5, (0, 0, 23, [])), (6, (0, (Int.negSucc 0), 71, [])), (7, (0, 0, 24, [])), (8, (0, 0, 72, []))], [], (0, 0), [(0, 0, 99839), (0, 0, 0), (0, 0, 0)], [], [], [], 0, [], [])]
def t_Pn_openLine_ct : ct_L := [(106, 134, e_Ne_edgeBetween_np), (220, 159, e_Ne_endAt_np), (502, 168, e_Pn_replaceInLine_at_gx)]
set_option maxRecDepth 100000 in
theorem c_Pn_openLine {l : Launch} {D : va_G} {kA : Nat → ClassId} (h_Ne_edgeBetween : ct_ok PRD l D kA GG y_Ne_edgeBetween z_Ne_edgeBetween e_Ne_edgeBetween) (h_Ne_endAt : ct_ok PRD l D kA GG y_Ne_endAt z_Ne_endAt e_Ne_endAt) (h_Pn_replaceInLine_at_gx : ct_ok PRD l D kA GG y_Pn_replaceInLine_at_gx z_Pn_replaceInLine_at_gx e_Pn_replaceInLine_at_gx) : ct_ok PRD l D kA GG y_Pn_openLine z_Pn_openLine e_Pn_openLine := chk_all_ok (FT := [(12, 7, 0), (22, 7, 2), (35, 7, 6), (156, 5, 11), (162, 5, 7), (165, 5, 8)]) (PT := []) (CT := t_Pn_openLine_ct) (KT := []) (NT := []) (AN := n_Pn_openLine_an) (OT := []) 3 364 (List.forall_mem_nil _) (by decide +kernel) ⟨List.forall_mem_cons.mpr ⟨gf_Pn_12, List.forall_mem_cons.mpr ⟨gf_Pn_22, List.forall_mem_cons.mpr ⟨gf_Pn_35, List.forall_mem_cons.mpr ⟨gf_Pn_156, List.forall_mem_cons.mpr ⟨gf_Pn_162, List.forall_mem_cons.mpr ⟨gf_Pn_165, List.forall_mem_nil _⟩⟩⟩⟩⟩⟩, List.forall_mem_nil _, List.forall_mem_cons.mpr ⟨cl_nopa (cl_virtual (y := y_Ne_edgeBetween) (ci := 5) rfl rfl ⟨_, _, rfl⟩ (by decide +kernel) h_Ne_edgeBetween wm_1089 wm_6 wm_1544 wm_1087 wm_1088 ⟨by decide, by decide, by decide +kernel⟩ (by decide)), List.forall_mem_cons.mpr ⟨cl_nopa (cl_virtual (y := y_Ne_endAt) (ci := 5) rfl rfl ⟨_, _, rfl⟩ (by decide +kernel) h_Ne_endAt wm_1138 wm_6 wm_1560 wm_1136 wm_1137 ⟨by decide, by decide, by decide +kernel⟩ (by decide)), List.forall_mem_cons.mpr ⟨cl_virtual (y := y_Pn_replaceInLine_at_gx) (ci := 7) rfl rfl ⟨_, _, rfl⟩ (by decide +kernel) h_Pn_replaceInLine_at_gx wm_1564 wm_20 wm_1561 wm_1563 wv_6_12 ⟨by decide, by decide, by decide +kernel⟩ (by decide), List.forall_mem_nil _⟩⟩⟩, List.forall_mem_nil _, List.forall_mem_nil _, GG_pl⟩ (by decide +kernel)
def n_Sy_run_an : List an_T := []
def t_Sy_run_ct : ct_L := [(0, 270, e_Sy_join), (1, 251, e_Sy_pop), (1, 266, e_Sy_push)]
set_option maxRecDepth 100000 in
theorem c_Sy_run {l : Launch} {D : va_G} {kA : Nat → ClassId} (h_Sy_join : ct_ok PRD l D kA GG y_Sy_join z_Sy_join e_Sy_join) (h_Sy_pop : ct_ok PRD l D kA GG y_Sy_pop z_Sy_pop e_Sy_pop) (h_Sy_push : ct_ok PRD l D kA GG y_Sy_push z_Sy_push e_Sy_push) : ct_ok PRD l D kA GG y_Sy_run z_Sy_run e_Sy_run := chk_all_ok (FT := [(66, 11, 16)]) (PT := []) (CT := t_Sy_run_ct) (KT := []) (NT := []) (AN := n_Sy_run_an) (OT := []) 0 228 (List.forall_mem_nil _) (by decide +kernel) ⟨List.forall_mem_cons.mpr ⟨gf_Sy_66, List.forall_mem_nil _⟩, List.forall_mem_nil _, List.forall_mem_cons.mpr ⟨cl_static (y := y_Sy_join) h_Sy_join wm_2315 wm_23 wm_2313 wm_2314 ⟨by decide, by decide, by decide +kernel⟩ (by decide), List.forall_mem_cons.mpr ⟨cl_virtual (y := y_Sy_pop) (ci := 11) rfl rfl ⟨_, _, rfl⟩ (by decide +kernel) h_Sy_pop wm_2301 wm_23 wm_2298 wm_2300 wv_11_10 ⟨by decide, by decide, by decide +kernel⟩ (by decide), List.forall_mem_cons.mpr ⟨cl_virtual (y := y_Sy_push) (ci := 11) rfl rfl ⟨_, _, rfl⟩ (by decide +kernel) h_Sy_push wm_2312 wm_23 wm_2309 wm_2311 wv_11_12 ⟨by decide, by decide, by decide +kernel⟩ (by decide), List.forall_mem_nil _⟩⟩⟩, List.forall_mem_nil _, List.forall_mem_nil _, GG_pl⟩ (by decide +kernel)
def n_Mo_isInBox_an : List an_T := []
def t_Mo_isInBox_ct : ct_L := [(0, 387, e_Mo_in), (1, 478, e_Mo_longOf), (1, 1023, e_Mo_px), (1, 1029, e_Mo_py)]
set_option maxRecDepth 100000 in
theorem c_Mo_isInBox {l : Launch} {D : va_G} {kA : Nat → ClassId} (h_Mo_in : ct_ok PRD l D kA GG y_Mo_in z_Mo_in e_Mo_in) (h_Mo_longOf : ct_ok PRD l D kA GG y_Mo_longOf z_Mo_longOf e_Mo_longOf) (h_Mo_px : ct_ok PRD l D kA GG y_Mo_px z_Mo_px e_Mo_px) (h_Mo_py : ct_ok PRD l D kA GG y_Mo_py z_Mo_py e_Mo_py) : ct_ok PRD l D kA GG y_Mo_isInBox z_Mo_isInBox e_Mo_isInBox := chk_all_ok (FT := []) (PT := []) (CT := t_Mo_isInBox_ct) (KT := []) (NT := []) (AN := n_Mo_isInBox_an) (OT := []) 0 200 (List.forall_mem_nil _) (by decide +kernel) ⟨List.forall_mem_nil _, List.forall_mem_nil _, List.forall_mem_cons.mpr ⟨cl_static (y := y_Mo_in) h_Mo_in wm_2971 wm_9 wm_2969 wm_2970 ⟨by decide, by decide, by decide +kernel⟩ (by decide), List.forall_mem_cons.mpr ⟨cl_virtual (y := y_Mo_longOf) (ci := 13) rfl rfl ⟨_, _, rfl⟩ (by decide +kernel) h_Mo_longOf wm_3029 wm_9 wm_3026 wm_3028 wv_13_4 ⟨by decide, by decide, by decide +kernel⟩ (by decide), List.forall_mem_cons.mpr ⟨cl_virtual (y := y_Mo_px) (ci := 13) rfl rfl ⟨_, _, rfl⟩ (by decide +kernel) h_Mo_px wm_3675 wm_9 wm_3672 wm_3674 wv_21_14 ⟨by decide, by decide, by decide +kernel⟩ (by decide), List.forall_mem_cons.mpr ⟨cl_virtual (y := y_Mo_py) (ci := 13) rfl rfl ⟨_, _, rfl⟩ (by decide +kernel) h_Mo_py wm_3679 wm_9 wm_3676 wm_3678 wv_21_15 ⟨by decide, by decide, by decide +kernel⟩ (by decide), List.forall_mem_nil _⟩⟩⟩⟩, List.forall_mem_nil _, List.forall_mem_nil _, GG_pl⟩ (by decide +kernel)
def n_Mo_neighbours_an : List an_T := [(4, [(0, (2, 0, 0, [165])), (1, (0, 0, 23, [])), (2, (0, (Int.negSucc 2147483647), 2147483647, [])), (3, (0, 0, 48, []))], [], (0, 0), [(0, 0, 99996), (1, 3, 48), (0, 0, 100000)], [], [], [], 0, [], [])]
def t_Mo_neighbours_ct : ct_L := [(1, 401, e_Mo_edges), (1, 405, e_Mo_has)]
set_option maxRecDepth 100000 in
theorem c_Mo_neighbours {l : Launch} {D : va_G} {kA : Nat → ClassId} (h_Mo_edges : ct_ok PRD l D kA GG y_Mo_edges z_Mo_edges e_Mo_edges) (h_Mo_has : ct_ok PRD l D kA GG y_Mo_has z_Mo_has e_Mo_has) : ct_ok PRD l D kA GG y_Mo_neighbours z_Mo_neighbours e_Mo_neighbours := chk_all_ok (FT := []) (PT := []) (CT := t_Mo_neighbours_ct) (KT := []) (NT := []) (AN := n_Mo_neighbours_an) (OT := []) 3 200 (List.forall_mem_nil _) (by decide +kernel) ⟨List.forall_mem_nil _, List.forall_mem_nil _, List.forall_mem_cons.mpr ⟨cl_virtual (y := y_Mo_edges) (ci := 13) rfl rfl ⟨_, _, rfl⟩ (by decide +kernel) h_Mo_edges wm_3037 wm_9 wm_3034 wm_3036 wv_13_6 ⟨by decide, by decide, by decide +kernel⟩ (by decide), List.forall_mem_cons.mpr ⟨cl_virtual (y := y_Mo_has) (ci := 13) rfl rfl ⟨_, _, rfl⟩ (by decide +kernel) h_Mo_has wm_3041 wm_9 wm_3038 wm_3040 wv_13_7 ⟨by decide, by decide, by decide +kernel⟩ (by decide), List.forall_mem_nil _⟩⟩, List.forall_mem_nil _, List.forall_mem_nil _, GG_pl⟩ (by decide +kernel)
def n_Mo_touch_an : List an_T := []
def t_Mo_touch_ct : ct_L := [(1, 478, e_Mo_longOf), (1, 1023, e_Mo_px), (1, 1029, e_Mo_py), (42, 1137, e_jMath_abs2_v144), (93, 1137, e_jMath_abs2_v144)]
set_option maxRecDepth 100000 in
theorem c_Mo_touch {l : Launch} {D : va_G} {kA : Nat → ClassId} (h_Mo_longOf : ct_ok PRD l D kA GG y_Mo_longOf z_Mo_longOf e_Mo_longOf) (h_Mo_px : ct_ok PRD l D kA GG y_Mo_px z_Mo_px e_Mo_px) (h_Mo_py : ct_ok PRD l D kA GG y_Mo_py z_Mo_py e_Mo_py) : ct_ok PRD l D kA GG y_Mo_touch z_Mo_touch e_Mo_touch := chk_all_ok (FT := []) (PT := []) (CT := t_Mo_touch_ct) (KT := [(2, 1140, .long (2), (1, 2, 2, []))]) (NT := []) (AN := n_Mo_touch_an) (OT := []) 0 200 (List.forall_mem_nil _) (by decide +kernel) ⟨List.forall_mem_nil _, List.forall_mem_nil _, List.forall_mem_cons.mpr ⟨cl_virtual (y := y_Mo_longOf) (ci := 13) rfl rfl ⟨_, _, rfl⟩ (by decide +kernel) h_Mo_longOf wm_3029 wm_9 wm_3026 wm_3028 wv_13_4 ⟨by decide, by decide, by decide +kernel⟩ (by decide), List.forall_mem_cons.mpr ⟨cl_virtual (y := y_Mo_px) (ci := 13) rfl rfl ⟨_, _, rfl⟩ (by decide +kernel) h_Mo_px wm_3675 wm_9 wm_3672 wm_3674 wv_21_14 ⟨by decide, by decide, by decide +kernel⟩ (by decide), List.forall_mem_cons.mpr ⟨cl_virtual (y := y_Mo_py) (ci := 13) rfl rfl ⟨_, _, rfl⟩ (by decide +kernel) h_Mo_py wm_3679 wm_9 wm_3676 wm_3678 wv_21_15 ⟨by decide, by decide, by decide +kernel⟩ (by decide), List.forall_mem_cons.mpr ⟨cl_static (y := y_jMath_abs2) c_jMath_abs2_v144 wm_2082 wm_10 wm_3769 wm_2081 ⟨by decide, by decide, by decide +kernel⟩ (by decide), List.forall_mem_cons.mpr ⟨cl_static (y := y_jMath_abs2) c_jMath_abs2_v144 wm_2082 wm_10 wm_3769 wm_2081 ⟨by decide, by decide, by decide +kernel⟩ (by decide), List.forall_mem_nil _⟩⟩⟩⟩⟩, List.forall_mem_cons.mpr ⟨⟨kt_mk2 wm_3770, fun _ => Or.inr (Or.inl ⟨rfl, _, rfl, by decide, by decide⟩)⟩, List.forall_mem_nil _⟩, List.forall_mem_nil _, GG_pl⟩ (by decide +kernel)
def o_Ho_searchMap_0 : or_T := (20, 9, [(6, (0, 0, 0, []))], [], [], [], [(20, [3, 6], [8, 0, 23, 0])], [], [])
theorem oo_Ho_searchMap_0 {kA : Nat → ClassId} : or_ok PRD kA GG o_Ho_searchMap_0 := by
  refine or_mk fun A ta ws vs hD hth hl => ?_
  intro t6 k6
  have nf0 : fc_1 PRD (20, [3, 6], [8, 0, 23, 0]) ws (vs) := by
    refine ⟨nf_in hl rfl, sgq_185 ?_⟩
    · show ∀ j : Nat, (j : Int) < v_iv (n_v vs 6) + 0 → 0 ≤ w_el ws (v_ad (n_v vs 3)) j ∧ w_el ws (v_ad (n_v vs 3)) j ≤ 23
      intro j hj
      exfalso; omega
  refine ⟨(fun _ h => (by cases h)), [], trivial, ?_, (fun _ h => (by cases h))⟩
  rw [List.append_nil]
  exact List.forall_mem_cons.mpr ⟨⟨show (20 : Nat) < 100 from by decide, nf0⟩, (fun _ h => (by cases h))⟩
def o_Ho_searchMap_1 : or_T := (144, 13, [(6, (0, 0, 22, [])), (8, (0, 2, 23, []))], [(100, [3, 6, 8], []), (20, [3, 6], [8, 0, 23, 0])], [], [], [(20, [3, 6], [8, 0, 23, 1])], [], [])
theorem oo_Ho_searchMap_1 {kA : Nat → ClassId} : or_ok PRD kA GG o_Ho_searchMap_1 := by
  refine or_mk fun A ta ws vs hD hth hl => ?_
  intro t6 k6 t8 k8 ta1 w1 le1 s1 f1
  have s1 : (∀ b j, w_el ws b j = if b = v_ad (n_v vs 3) ∧ j = (v_iv (n_v vs 6)).toNat then v_iv (n_v vs 8) else w_el w1 b j) ∧ ∀ b k, w_fd ws b k = w_fd w1 b k := s1.2
  replace f1 := shm_185 f1
  have nf0 : fc_1 PRD (20, [3, 6], [8, 0, 23, 1]) ws (vs) := by
    refine ⟨nf_in hl rfl, sgq_171 ?_⟩
    · show ∀ j : Nat, (j : Int) < v_iv (n_v vs 6) + 1 → 0 ≤ w_el ws (v_ad (n_v vs 3)) j ∧ w_el ws (v_ad (n_v vs 3)) j ≤ 23
      intro j hj
      by_cases hji : j = (v_iv (n_v vs 6)).toNat
      · rw [s1.1, if_pos ⟨rfl, hji⟩]; first | (constructor <;> omega) | (exfalso; omega)
      · rw [s1.1, if_neg (fun e => hji e.2)]; exact f1 j (by omega)
  refine ⟨(fun _ h => (by cases h)), [], trivial, ?_, (fun _ h => (by cases h))⟩
  rw [List.append_nil]
  exact List.forall_mem_cons.mpr ⟨⟨show (20 : Nat) < 100 from by decide, nf0⟩, (fun _ h => (by cases h))⟩
def o_Ho_searchMap_2 : or_T := (20, 15, [(6, (0, 0, 22, []))], [(20, [3, 6], [8, 0, 23, 1])], [], [], [(20, [3, 6], [8, 0, 23, 0])], [], [])
theorem oo_Ho_searchMap_2 {kA : Nat → ClassId} : or_ok PRD kA GG o_Ho_searchMap_2 := by
  refine or_mk fun A ta ws vs hD hth hl => ?_
  intro t6 k6 f0
  replace f0 := shm_171 f0
  have nf0 : fc_1 PRD (20, [3, 6], [8, 0, 23, 0]) ws (vs) := by
    refine ⟨nf_in hl rfl, sgq_185 ?_⟩
    · show ∀ j : Nat, (j : Int) < v_iv (n_v vs 6) + 0 → 0 ≤ w_el ws (v_ad (n_v vs 3)) j ∧ w_el ws (v_ad (n_v vs 3)) j ≤ 23
      intro j hj
      exact f0 j (by omega)
  refine ⟨(fun _ h => (by cases h)), [], trivial, ?_, (fun _ h => (by cases h))⟩
  rw [List.append_nil]
  exact List.forall_mem_cons.mpr ⟨⟨show (20 : Nat) < 100 from by decide, nf0⟩, (fun _ h => (by cases h))⟩
def o_Ho_searchMap_3 : or_T := (20, 19, [(6, (0, 0, 22, [])), (17, (0, 1, 23, []))], [(6, [17, 6], [1]), (20, [3, 6], [8, 0, 23, 1])], [], [], [(20, [3, 17], [8, 0, 23, 0])], [], [(17, 6, 1, 1)])
theorem oo_Ho_searchMap_3 {kA : Nat → ClassId} : or_ok PRD kA GG o_Ho_searchMap_3 := by
  refine or_mk fun A ta ws vs hD hth hl => ?_
  intro t6 k6 t17 k17 d0 f0 f1
  replace f0 := shm_4 f0
  replace f1 := shm_171 f1
  have nf0 : fc_1 PRD (20, [3, 17], [8, 0, 23, 0]) ws (vs) := by
    refine ⟨nf_in hl rfl, sgq_185 ?_⟩
    · show ∀ j : Nat, (j : Int) < v_iv (n_v vs 17) + 0 → 0 ≤ w_el ws (v_ad (n_v vs 3)) j ∧ w_el ws (v_ad (n_v vs 3)) j ≤ 23
      intro j hj
      exact f1 j (by omega)
  refine ⟨(fun _ h => (by cases h)), [], trivial, ?_, (fun _ h => (by cases h))⟩
  rw [List.append_nil]
  exact List.forall_mem_cons.mpr ⟨⟨show (20 : Nat) < 100 from by decide, nf0⟩, (fun _ h => (by cases h))⟩
def o_Ho_searchMap_4 : or_T := (20, 12, [(6, (0, 0, 23, [])), (9, (0, -1, -1, [])), (10, (0, -1, 22, []))], [(6, [10, 6], [-1]), (100, [3, 6, 9], []), (20, [3, 6], [8, 0, 23, 0])], [], [], [(20, [3, 10], [8, 0, 23, 0])], [], [(10, 6, -1, -1)])
theorem oo_Ho_searchMap_4 {kA : Nat → ClassId} : or_ok PRD kA GG o_Ho_searchMap_4 := by
  refine or_mk fun A ta ws vs hD hth hl => ?_
  intro t6 k6 t9 k9 t10 k10 d0 f0 ta1 w1 le1 s1 f2
  replace f0 := shm_186 f0
  have s1 : (∀ b j, w_el ws b j = if b = v_ad (n_v vs 3) ∧ j = (v_iv (n_v vs 6)).toNat then v_iv (n_v vs 9) else w_el w1 b j) ∧ ∀ b k, w_fd ws b k = w_fd w1 b k := s1.2
  replace f2 := shm_185 f2
  have nf0 : fc_1 PRD (20, [3, 10], [8, 0, 23, 0]) ws (vs) := by
    refine ⟨nf_in hl rfl, sgq_185 ?_⟩
    · show ∀ j : Nat, (j : Int) < v_iv (n_v vs 10) + 0 → 0 ≤ w_el ws (v_ad (n_v vs 3)) j ∧ w_el ws (v_ad (n_v vs 3)) j ≤ 23
      intro j hj
      by_cases hji : j = (v_iv (n_v vs 6)).toNat
      · rw [s1.1, if_pos ⟨rfl, hji⟩]; first | (constructor <;> omega) | (exfalso; omega)
      · rw [s1.1, if_neg (fun e => hji e.2)]; exact f2 j (by omega)
  refine ⟨(fun _ h => (by cases h)), [], trivial, ?_, (fun _ h => (by cases h))⟩
  rw [List.append_nil]
  exact List.forall_mem_cons.mpr ⟨⟨show (20 : Nat) < 100 from by decide, nf0⟩, (fun _ h => (by cases h))⟩
def o_Ho_searchMap_5 : or_T := (144, 16, [(6, (0, 0, 23, [])), (8, (0, 0, 23, []))], [(100, [3, 6, 8], []), (20, [3, 6], [8, 0, 23, 0])], [], [], [(20, [3, 6], [8, 0, 23, 1])], [], [])
theorem oo_Ho_searchMap_5 {kA : Nat → ClassId} : or_ok PRD kA GG o_Ho_searchMap_5 := by
  refine or_mk fun A ta ws vs hD hth hl => ?_
  intro t6 k6 t8 k8 ta1 w1 le1 s1 f1
  have s1 : (∀ b j, w_el ws b j = if b = v_ad (n_v vs 3) ∧ j = (v_iv (n_v vs 6)).toNat then v_iv (n_v vs 8) else w_el w1 b j) ∧ ∀ b k, w_fd ws b k = w_fd w1 b k := s1.2
  replace f1 := shm_185 f1
  have nf0 : fc_1 PRD (20, [3, 6], [8, 0, 23, 1]) ws (vs) := by
    refine ⟨nf_in hl rfl, sgq_171 ?_⟩
    · show ∀ j : Nat, (j : Int) < v_iv (n_v vs 6) + 1 → 0 ≤ w_el ws (v_ad (n_v vs 3)) j ∧ w_el ws (v_ad (n_v vs 3)) j ≤ 23
      intro j hj
      by_cases hji : j = (v_iv (n_v vs 6)).toNat
      · rw [s1.1, if_pos ⟨rfl, hji⟩]; first | (constructor <;> omega) | (exfalso; omega)
      · rw [s1.1, if_neg (fun e => hji e.2)]; exact f1 j (by omega)
  refine ⟨(fun _ h => (by cases h)), [], trivial, ?_, (fun _ h => (by cases h))⟩
  rw [List.append_nil]
  exact List.forall_mem_cons.mpr ⟨⟨show (20 : Nat) < 100 from by decide, nf0⟩, (fun _ h => (by cases h))⟩
def o_Ho_searchMap_6 : or_T := (20, 18, [(6, (0, 0, 23, []))], [(20, [3, 6], [8, 0, 23, 1])], [], [], [(20, [3, 6], [8, 0, 23, 0])], [], [])
theorem oo_Ho_searchMap_6 {kA : Nat → ClassId} : or_ok PRD kA GG o_Ho_searchMap_6 := by
  refine or_mk fun A ta ws vs hD hth hl => ?_
  intro t6 k6 f0
  replace f0 := shm_171 f0
  have nf0 : fc_1 PRD (20, [3, 6], [8, 0, 23, 0]) ws (vs) := by
    refine ⟨nf_in hl rfl, sgq_185 ?_⟩
    · show ∀ j : Nat, (j : Int) < v_iv (n_v vs 6) + 0 → 0 ≤ w_el ws (v_ad (n_v vs 3)) j ∧ w_el ws (v_ad (n_v vs 3)) j ≤ 23
      intro j hj
      exact f0 j (by omega)
  refine ⟨(fun _ h => (by cases h)), [], trivial, ?_, (fun _ h => (by cases h))⟩
  rw [List.append_nil]
  exact List.forall_mem_cons.mpr ⟨⟨show (20 : Nat) < 100 from by decide, nf0⟩, (fun _ h => (by cases h))⟩
def o_Ho_searchMap_7 : or_T := (20, 22, [(6, (0, 0, 23, [])), (20, (0, 1, 24, []))], [(6, [20, 6], [1]), (20, [3, 6], [8, 0, 23, 1])], [], [], [(20, [3, 20], [8, 0, 23, 0])], [], [(20, 6, 1, 1)])
theorem oo_Ho_searchMap_7 {kA : Nat → ClassId} : or_ok PRD kA GG o_Ho_searchMap_7 := by
  refine or_mk fun A ta ws vs hD hth hl => ?_
  intro t6 k6 t20 k20 d0 f0 f1
  replace f0 := shm_4 f0
  replace f1 := shm_171 f1
  have nf0 : fc_1 PRD (20, [3, 20], [8, 0, 23, 0]) ws (vs) := by
    refine ⟨nf_in hl rfl, sgq_185 ?_⟩
    · show ∀ j : Nat, (j : Int) < v_iv (n_v vs 20) + 0 → 0 ≤ w_el ws (v_ad (n_v vs 3)) j ∧ w_el ws (v_ad (n_v vs 3)) j ≤ 23
      intro j hj
      exact f1 j (by omega)
  refine ⟨(fun _ h => (by cases h)), [], trivial, ?_, (fun _ h => (by cases h))⟩
  rw [List.append_nil]
  exact List.forall_mem_cons.mpr ⟨⟨show (20 : Nat) < 100 from by decide, nf0⟩, (fun _ h => (by cases h))⟩
def o_Ho_searchMap_8 : or_T := (20, 15, [(6, (0, 0, 22, [])), (12, (0, -1, -1, [])), (13, (0, -1, 21, []))], [(6, [13, 6], [-1]), (100, [3, 6, 12], []), (20, [3, 6], [8, 0, 23, 0])], [], [], [(20, [3, 13], [8, 0, 23, 0])], [], [(13, 6, -1, -1)])
theorem oo_Ho_searchMap_8 {kA : Nat → ClassId} : or_ok PRD kA GG o_Ho_searchMap_8 := by
  refine or_mk fun A ta ws vs hD hth hl => ?_
  intro t6 k6 t12 k12 t13 k13 d0 f0 ta1 w1 le1 s1 f2
  replace f0 := shm_186 f0
  have s1 : (∀ b j, w_el ws b j = if b = v_ad (n_v vs 3) ∧ j = (v_iv (n_v vs 6)).toNat then v_iv (n_v vs 12) else w_el w1 b j) ∧ ∀ b k, w_fd ws b k = w_fd w1 b k := s1.2
  replace f2 := shm_185 f2
  have nf0 : fc_1 PRD (20, [3, 13], [8, 0, 23, 0]) ws (vs) := by
    refine ⟨nf_in hl rfl, sgq_185 ?_⟩
    · show ∀ j : Nat, (j : Int) < v_iv (n_v vs 13) + 0 → 0 ≤ w_el ws (v_ad (n_v vs 3)) j ∧ w_el ws (v_ad (n_v vs 3)) j ≤ 23
      intro j hj
      by_cases hji : j = (v_iv (n_v vs 6)).toNat
      · rw [s1.1, if_pos ⟨rfl, hji⟩]; first | (constructor <;> omega) | (exfalso; omega)
      · rw [s1.1, if_neg (fun e => hji e.2)]; exact f2 j (by omega)
  refine ⟨(fun _ h => (by cases h)), [], trivial, ?_, (fun _ h => (by cases h))⟩
  rw [List.append_nil]
  exact List.forall_mem_cons.mpr ⟨⟨show (20 : Nat) < 100 from by decide, nf0⟩, (fun _ h => (by cases h))⟩
def n_Ho_searchMap_an : List an_T := [(20, [(0, (2, 0, 0, [12])), (1, (2, 0, 0, [3])), (2, (2, 0, 0, [3])), (3, (2, 0, 0, [295])), (4, (0, 0, 24, [])), (5, (0, 0, 16777215, [])), (6, (0, (Int.negSucc 0), 24, [])), (7, (0, (Int.negSucc 2147483645), 60000, []))], [], (0, 0), [(0, 0, 99980), (1, 7, 60000), (0, 0, 100000), (0, 0, 0), (0, 0, 0)], [(5, 4, (Int.negSucc 999999999999), 16777214), (6, 4, (Int.negSucc 999999999999), 0)], [((0, 8), (0, (Int.negSucc 0), 20000, []))], [], 0, [], [(20, [3, 6], [8, 0, 23, 0])]), (69, [(0, (2, 0, 0, [12])), (1, (2, 0, 0, [3])), (2, (2, 0, 0, [3])), (3, (2, 0, 0, [295])), (4, (0, 1, 24, [])), (5, (0, 0, 16777215, [])), (6, (0, 0, 23, [])), (7, (0, (Int.negSucc 2147483646), 59999, [])), (8, (0, 0, 24, []))], [], (0, 0), [(0, 0, 99980), (1, 7, 60000), (0, 0, 99931), (1, 8, 24), (0, 0, 100000)], [(6, 4, (Int.negSucc 999999999999), (Int.negSucc 0))], [], [], 0, [], [(20, [3, 6], [8, 0, 23, 0])])]
def t_Ho_searchMap_ct : ct_L := [(0, 431, e_Ho_mayBecome), (45, 375, e_jArr_fill1_v145)]
set_option maxRecDepth 100000 in
theorem c_Ho_searchMap {l : Launch} {D : va_G} {kA : Nat → ClassId} (h_Ho_mayBecome : ct_ok PRD l D kA GG y_Ho_mayBecome z_Ho_mayBecome e_Ho_mayBecome) : ct_ok PRD l D kA GG y_Ho_searchMap z_Ho_searchMap e_Ho_searchMap := chk_all_ok (FT := [(57, 12, 8), (132, 3, 0)]) (PT := [(57, 12, 8, .int)]) (CT := t_Ho_searchMap_ct) (KT := [(1, 430, .int (60000), (0, 60000, 60000, []))]) (NT := []) (AN := n_Ho_searchMap_an) (OT := [o_Ho_searchMap_0, o_Ho_searchMap_1, o_Ho_searchMap_2, o_Ho_searchMap_3, o_Ho_searchMap_4, o_Ho_searchMap_5, o_Ho_searchMap_6, o_Ho_searchMap_7, o_Ho_searchMap_8]) 5 668 (List.forall_mem_cons.mpr ⟨oo_Ho_searchMap_0, List.forall_mem_cons.mpr ⟨oo_Ho_searchMap_1, List.forall_mem_cons.mpr ⟨oo_Ho_searchMap_2, List.forall_mem_cons.mpr ⟨oo_Ho_searchMap_3, List.forall_mem_cons.mpr ⟨oo_Ho_searchMap_4, List.forall_mem_cons.mpr ⟨oo_Ho_searchMap_5, List.forall_mem_cons.mpr ⟨oo_Ho_searchMap_6, List.forall_mem_cons.mpr ⟨oo_Ho_searchMap_7, List.forall_mem_cons.mpr ⟨oo_Ho_searchMap_8, List.forall_mem_nil _⟩⟩⟩⟩⟩⟩⟩⟩⟩) (by decide +kernel) ⟨List.forall_mem_cons.mpr ⟨gf_Ho_57, List.forall_mem_cons.mpr ⟨gf_Ho_132, List.forall_mem_nil _⟩⟩, List.forall_mem_cons.mpr ⟨pf_Ho_57, List.forall_mem_nil _⟩, List.forall_mem_cons.mpr ⟨cl_static (y := y_Ho_mayBecome) h_Ho_mayBecome wm_1035 wm_1 wm_1033 wm_1034 ⟨by decide, by decide, by decide +kernel⟩ (by decide), List.forall_mem_cons.mpr ⟨cl_static (y := y_jArr_fill1) c_jArr_fill1_v145 wm_55 wm_4 wm_1031 wm_54 ⟨by decide, by decide, by decide +kernel⟩ (by decide), List.forall_mem_nil _⟩⟩, List.forall_mem_cons.mpr ⟨kx_Ho_1_430, List.forall_mem_nil _⟩, List.forall_mem_nil _, GG_pl⟩ (by decide +kernel)
def n_Dr_isOnPiece_an : List an_T := []
def t_Dr_isOnPiece_ct : ct_L := [(1, 198, e_Dr_sideOf), (13, 128, e_Dr_pointX_np), (37, 134, e_Dr_pointY_np), (67, 128, e_Dr_pointX_np), (97, 134, e_Dr_pointY_np), (126, 154, e_jMath_min1_v58), (159, 157, e_jMath_max1_v57), (195, 154, e_jMath_min1_v58), (231, 157, e_jMath_max1_v57)]
set_option maxRecDepth 100000 in
theorem c_Dr_isOnPiece {l : Launch} {D : va_G} {kA : Nat → ClassId} (h_Dr_pointX : ct_ok PRD l D kA GG y_Dr_pointX z_Dr_pointX e_Dr_pointX) (h_Dr_pointY : ct_ok PRD l D kA GG y_Dr_pointY z_Dr_pointY e_Dr_pointY) (h_Dr_sideOf : ct_ok PRD l D kA GG y_Dr_sideOf z_Dr_sideOf e_Dr_sideOf) : ct_ok PRD l D kA GG y_Dr_isOnPiece z_Dr_isOnPiece e_Dr_isOnPiece := chk_all_ok (FT := []) (PT := []) (CT := t_Dr_isOnPiece_ct) (KT := []) (NT := []) (AN := n_Dr_isOnPiece_an) (OT := []) 0 260 (List.forall_mem_nil _) (by decide +kernel) ⟨List.forall_mem_nil _, List.forall_mem_nil _, List.forall_mem_cons.mpr ⟨cl_virtual (y := y_Dr_sideOf) (ci := 0) rfl rfl ⟨_, _, rfl⟩ (by decide +kernel) h_Dr_sideOf wm_2030 wm_8 wm_2027 wm_2029 wv_9_14 ⟨by decide, by decide, by decide +kernel⟩ (by decide), List.forall_mem_cons.mpr ⟨cl_nopa (cl_virtual (y := y_Dr_pointX) (ci := 0) rfl rfl ⟨_, _, rfl⟩ (by decide +kernel) h_Dr_pointX wm_1986 wm_8 wm_1983 wm_1984 wm_1985 ⟨by decide, by decide, by decide +kernel⟩ (by decide)), List.forall_mem_cons.mpr ⟨cl_nopa (cl_virtual (y := y_Dr_pointY) (ci := 0) rfl rfl ⟨_, _, rfl⟩ (by decide +kernel) h_Dr_pointY wm_1991 wm_8 wm_1988 wm_1989 wm_1990 ⟨by decide, by decide, by decide +kernel⟩ (by decide)), List.forall_mem_cons.mpr ⟨cl_nopa (cl_virtual (y := y_Dr_pointX) (ci := 0) rfl rfl ⟨_, _, rfl⟩ (by decide +kernel) h_Dr_pointX wm_1986 wm_8 wm_1983 wm_1984 wm_1985 ⟨by decide, by decide, by decide +kernel⟩ (by decide)), List.forall_mem_cons.mpr ⟨cl_nopa (cl_virtual (y := y_Dr_pointY) (ci := 0) rfl rfl ⟨_, _, rfl⟩ (by decide +kernel) h_Dr_pointY wm_1991 wm_8 wm_1988 wm_1989 wm_1990 ⟨by decide, by decide, by decide +kernel⟩ (by decide)), List.forall_mem_cons.mpr ⟨cl_static (y := y_jMath_min1) c_jMath_min1_v58 wm_658 wm_10 wm_2026 wm_657 ⟨by decide, by decide, by decide +kernel⟩ (by decide), List.forall_mem_cons.mpr ⟨cl_static (y := y_jMath_max1) c_jMath_max1_v57 wm_836 wm_10 wm_2025 wm_835 ⟨by decide, by decide, by decide +kernel⟩ (by decide), List.forall_mem_cons.mpr ⟨cl_static (y := y_jMath_min1) c_jMath_min1_v58 wm_658 wm_10 wm_2026 wm_657 ⟨by decide, by decide, by decide +kernel⟩ (by decide), List.forall_mem_cons.mpr ⟨cl_static (y := y_jMath_max1) c_jMath_max1_v57 wm_836 wm_10 wm_2025 wm_835 ⟨by decide, by decide, by decide +kernel⟩ (by decide), List.forall_mem_nil _⟩⟩⟩⟩⟩⟩⟩⟩⟩, List.forall_mem_nil _, List.forall_mem_nil _, GG_pl⟩ (by decide +kernel)
def n_Dr_report_an : List an_T := []
def t_Dr_report_ct : ct_L := [(1, 85, e_Gr_hasNode), (1, 94, e_Dr_reportLayers), (1, 98, e_Dr_reportArea)]
set_option maxRecDepth 100000 in
theorem c_Dr_report {l : Launch} {D : va_G} {kA : Nat → ClassId} (h_Dr_reportArea : ct_ok PRD l D kA GG y_Dr_reportArea z_Dr_reportArea e_Dr_reportArea) (h_Dr_reportLayers : ct_ok PRD l D kA GG y_Dr_reportLayers z_Dr_reportLayers e_Dr_reportLayers) (h_Gr_hasNode : ct_ok PRD l D kA GG y_Gr_hasNode z_Gr_hasNode e_Gr_hasNode) : ct_ok PRD l D kA GG y_Dr_report z_Dr_report e_Dr_report := chk_all_ok (FT := [(9, 0, 1), (31, 0, 7), (37, 0, 9), (47, 0, 12), (74, 0, 0)]) (PT := []) (CT := t_Dr_report_ct) (KT := []) (NT := []) (AN := n_Dr_report_an) (OT := []) 0 288 (List.forall_mem_nil _) (by decide +kernel) ⟨List.forall_mem_cons.mpr ⟨gf_Dr_9, List.forall_mem_cons.mpr ⟨gf_Dr_31, List.forall_mem_cons.mpr ⟨gf_Dr_37, List.forall_mem_cons.mpr ⟨gf_Dr_47, List.forall_mem_cons.mpr ⟨gf_Dr_74, List.forall_mem_nil _⟩⟩⟩⟩⟩, List.forall_mem_nil _, List.forall_mem_cons.mpr ⟨cl_virtual (y := y_Gr_hasNode) (ci := 3) rfl rfl ⟨_, _, rfl⟩ (by decide +kernel) h_Gr_hasNode wm_921 wm_3 wm_1822 wm_919 wm_920 ⟨by decide, by decide, by decide +kernel⟩ (by decide), List.forall_mem_cons.mpr ⟨cl_virtual (y := y_Dr_reportLayers) (ci := 0) rfl rfl ⟨_, _, rfl⟩ (by decide +kernel) h_Dr_reportLayers wm_1836 wm_8 wm_1833 wm_1835 wv_8_13 ⟨by decide, by decide, by decide +kernel⟩ (by decide), List.forall_mem_cons.mpr ⟨cl_virtual (y := y_Dr_reportArea) (ci := 0) rfl rfl ⟨_, _, rfl⟩ (by decide +kernel) h_Dr_reportArea wm_1840 wm_8 wm_1837 wm_1839 wv_8_14 ⟨by decide, by decide, by decide +kernel⟩ (by decide), List.forall_mem_nil _⟩⟩⟩, List.forall_mem_nil _, List.forall_mem_nil _, GG_pl⟩ (by decide +kernel)
def o_Pn_cutFace_0 : or_T := (27, 10, [(4, (0, 0, 144, [])), (7, (0, 0, 144, [])), (8, (0, -144, 144, []))], [(2, [8, 7, 4], [])], [], [], [(21, [4, 8], [144])], [], [(8, 7, -144, 0)])
theorem oo_Pn_cutFace_0 {kA : Nat → ClassId} : or_ok PRD kA GG o_Pn_cutFace_0 := by
  refine or_mk fun A ta ws vs hD hth hl => ?_
  intro t4 k4 t7 k7 t8 k8 d0 f0
  replace f0 := shm_14 f0
  have nf0 : fc_1 PRD (21, [4, 8], [144]) ws (vs) := by
    refine ⟨nf_in hl rfl, sgq_183 ?_⟩
    · show v_iv (n_v vs 4) + v_iv (n_v vs 8) ≤ 144
      omega
  refine ⟨(fun _ h => (by cases h)), [], trivial, ?_, (fun _ h => (by cases h))⟩
  rw [List.append_nil]
  exact List.forall_mem_cons.mpr ⟨⟨show (21 : Nat) < 100 from by decide, nf0⟩, (fun _ h => (by cases h))⟩
def o_Pn_cutFace_1 : or_T := (44, 8, [(2, (0, 0, 144, [])), (3, (0, 1, 144, [])), (4, (0, 0, 143, [])), (7, (0, 0, 287, []))], [(1, [7, 2, 4], []), (7, [4, 3], [2]), (21, [2, 3], [144])], [(7, (0, 0, 143, []))], [], [], [], [(7, 4, 0, 144), (7, 3, -4294967296, 143), (7, 2, 0, 143), (4, 3, -4294967296, -1)])
theorem oo_Pn_cutFace_1 {kA : Nat → ClassId} : or_ok PRD kA GG o_Pn_cutFace_1 := by
  refine or_mk fun A ta ws vs hD hth hl => ?_
  intro t2 k2 t3 k3 t4 k4 t7 k7 d0 d1 d2 d3 f0 f1 f2
  replace f0 := shm_12 f0
  replace f1 := shm_6 f1
  replace f2 := shm_183 f2
  have rf7 : tv_ok ta (0, 0, 143, []) (n_v vs 7) := tv_in t7 (by omega) (by omega)
  refine ⟨List.forall_mem_cons.mpr ⟨rf7, (fun _ h => (by cases h))⟩, [], trivial, ?_, (fun _ h => (by cases h))⟩
  rw [List.append_nil]
  exact (fun _ h => (by cases h))
def o_Pn_cutFace_2 : or_T := (62, 13, [(2, (0, 0, 144, [])), (3, (0, 1, 144, [])), (4, (0, 0, 143, [])), (7, (0, 0, 143, [])), (9, (0, 1, 1, [])), (10, (0, 1, 144, [])), (11, (0, 0, 143, [])), (12, (0, 0, 287, []))], [(1, [12, 2, 11], []), (1, [10, 4, 9], []), (1, [7, 2, 4], []), (7, [4, 3], [2]), (21, [2, 3], [144])], [(12, (0, 0, 143, []))], [], [], [], [(12, 11, 0, 144), (12, 3, -4294967295, 143), (12, 2, 0, 143), (11, 3, -4294967295, -1), (10, 4, 1, 1), (10, 3, -4294967296, 0), (7, 4, 0, 144), (7, 2, 0, 143), (4, 3, -4294967296, -1)])
theorem oo_Pn_cutFace_2 {kA : Nat → ClassId} : or_ok PRD kA GG o_Pn_cutFace_2 := by
  refine or_mk fun A ta ws vs hD hth hl => ?_
  intro t2 k2 t3 k3 t4 k4 t7 k7 t9 k9 t10 k10 t11 k11 t12 k12 d0 d1 d2 d3 d4 d5 d6 d7 d8 f0 f1 f2 f3 f4
  replace f0 := shm_12 f0
  replace f1 := shm_12 f1
  replace f2 := shm_12 f2
  replace f3 := shm_6 f3
  replace f4 := shm_183 f4
  have rf12 : tv_ok ta (0, 0, 143, []) (n_v vs 12) := tv_in t12 (by omega) (by omega)
  refine ⟨List.forall_mem_cons.mpr ⟨rf12, (fun _ h => (by cases h))⟩, [], trivial, ?_, (fun _ h => (by cases h))⟩
  rw [List.append_nil]
  exact (fun _ h => (by cases h))
def o_Pn_cutFace_3 : or_T := (80, 18, [(2, (0, 0, 144, [])), (3, (0, 1, 144, [])), (4, (0, 0, 143, [])), (7, (0, 0, 143, [])), (9, (0, 1, 1, [])), (10, (0, 1, 144, [])), (11, (0, 0, 143, [])), (12, (0, 0, 143, [])), (14, (0, 2, 2, [])), (15, (0, 2, 145, [])), (16, (0, 0, 143, [])), (17, (0, 0, 287, []))], [(1, [17, 2, 16], []), (1, [15, 4, 14], []), (1, [12, 2, 11], []), (1, [10, 4, 9], []), (1, [7, 2, 4], []), (7, [4, 3], [2]), (21, [2, 3], [144])], [(17, (0, 0, 143, []))], [], [], [], [(17, 16, 0, 144), (17, 3, -4294967295, 143), (17, 2, 0, 143), (16, 3, -4294967295, -1), (15, 4, 2, 2), (15, 3, -4294967296, 1), (12, 11, 0, 144), (12, 2, 0, 143), (11, 3, -4294967295, -1), (10, 4, 1, 1), (10, 3, -4294967296, 0), (7, 4, 0, 144), (7, 2, 0, 143), (4, 3, -4294967296, -1)])
theorem oo_Pn_cutFace_3 {kA : Nat → ClassId} : or_ok PRD kA GG o_Pn_cutFace_3 := by
  refine or_mk fun A ta ws vs hD hth hl => ?_
  intro t2 k2 t3 k3 t4 k4 t7 k7 t9 k9 t10 k10 t11 k11 t12 k12 t14 k14 t15 k15 t16 k16 t17 k17 d0 d1 d2 d3 d4 d5 d6 d7 d8 d9 d10 d11 d12 d13 f0 f1 f2 f3 f4 f5 f6
  replace f0 := shm_12 f0
  replace f1 := shm_12 f1
  replace f2 := shm_12 f2
  replace f3 := shm_12 f3
  replace f4 := shm_12 f4
  replace f5 := shm_6 f5
  replace f6 := shm_183 f6
  have rf17 : tv_ok ta (0, 0, 143, []) (n_v vs 17) := tv_in t17 (by omega) (by omega)
  refine ⟨List.forall_mem_cons.mpr ⟨rf17, (fun _ h => (by cases h))⟩, [], trivial, ?_, (fun _ h => (by cases h))⟩
  rw [List.append_nil]
  exact (fun _ h => (by cases h))
def n_Pn_cutFace_an : List an_T := [(27, [(0, (2, 0, 0, [7])), (1, (0, 0, 143, [])), (2, (0, 0, 144, [])), (3, (0, (Int.negSucc 143), 144, [])), (4, (0, 0, 144, []))], [], (0, 0), [(0, 0, 99973), (1, 4, 144), (0, 0, 100000)], [(4, 3, (Int.negSucc 999999999999), 144)], [], [], 0, [], [(21, [2, 3], [144])])]
def t_Pn_cutFace_ct : ct_L := [(1, 134, e_Ne_edgeBetween), (1, 137, e_Ne_insertAhead), (1, 141, e_Ne_insertBehind), (439, 104, e_Ne_join_at_Nq_gx)]
set_option maxRecDepth 100000 in
theorem c_Pn_cutFace {l : Launch} {D : va_G} {kA : Nat → ClassId} (h_Ne_edgeBetween : ct_ok PRD l D kA GG y_Ne_edgeBetween z_Ne_edgeBetween e_Ne_edgeBetween) (h_Ne_insertAhead : ct_ok PRD l D kA GG y_Ne_insertAhead z_Ne_insertAhead e_Ne_insertAhead) (h_Ne_insertBehind : ct_ok PRD l D kA GG y_Ne_insertBehind z_Ne_insertBehind e_Ne_insertBehind) (h_Ne_join_at_Nq_gx : ct_ok PRD l D kA GG y_Ne_join_at_Nq_gx z_Ne_join_at_Nq_gx e_Ne_join_at_Nq_gx) : ct_ok PRD l D kA GG y_Pn_cutFace z_Pn_cutFace e_Pn_cutFace := chk_all_ok (FT := [(12, 7, 0), (125, 5, 14), (128, 5, 15), (131, 5, 9)]) (PT := []) (CT := t_Pn_cutFace_ct) (KT := []) (NT := []) (AN := n_Pn_cutFace_an) (OT := [o_Pn_cutFace_0, o_Pn_cutFace_1, o_Pn_cutFace_2, o_Pn_cutFace_3]) 3 480 (List.forall_mem_cons.mpr ⟨oo_Pn_cutFace_0, List.forall_mem_cons.mpr ⟨oo_Pn_cutFace_1, List.forall_mem_cons.mpr ⟨oo_Pn_cutFace_2, List.forall_mem_cons.mpr ⟨oo_Pn_cutFace_3, List.forall_mem_nil _⟩⟩⟩⟩) (by decide +kernel) ⟨List.forall_mem_cons.mpr ⟨gf_Pn_12, List.forall_mem_cons.mpr ⟨gf_Pn_125, List.forall_mem_cons.mpr ⟨gf_Pn_128, List.forall_mem_cons.mpr ⟨gf_Pn_131, List.forall_mem_nil _⟩⟩⟩⟩, List.forall_mem_nil _, List.forall_mem_cons.mpr ⟨cl_virtual (y := y_Ne_edgeBetween) (ci := 5) rfl rfl ⟨_, _, rfl⟩ (by decide +kernel) h_Ne_edgeBetween wm_1089 wm_6 wm_1544 wm_1087 wm_1088 ⟨by decide, by decide, by decide +kernel⟩ (by decide), List.forall_mem_cons.mpr ⟨cl_virtual (y := y_Ne_insertAhead) (ci := 5) rfl rfl ⟨_, _, rfl⟩ (by decide +kernel) h_Ne_insertAhead wm_1526 wm_6 wm_1545 wm_1524 wm_1525 ⟨by decide, by decide, by decide +kernel⟩ (by decide), List.forall_mem_cons.mpr ⟨cl_virtual (y := y_Ne_insertBehind) (ci := 5) rfl rfl ⟨_, _, rfl⟩ (by decide +kernel) h_Ne_insertBehind wm_1530 wm_6 wm_1546 wm_1528 wm_1529 ⟨by decide, by decide, by decide +kernel⟩ (by decide), List.forall_mem_cons.mpr ⟨cl_virtual (y := y_Ne_join_at_Nq_gx) (ci := 5) rfl rfl ⟨_, _, rfl⟩ (by decide +kernel) h_Ne_join_at_Nq_gx wm_1065 wm_6 wm_1518 wm_1063 wm_1064 ⟨by decide, by decide, by decide +kernel⟩ (by decide), List.forall_mem_nil _⟩⟩⟩⟩, List.forall_mem_nil _, List.forall_mem_nil _, GG_pl⟩ (by decide +kernel)

def n_Mo_chordCrossings_an : List an_T := [(4, [(0, (2, 0, 0, [165])), (1, (0, 0, 24, [])), (2, (0, 0, 0, [])), (3, (0, 0, 24, []))], [], (0, 0), [(0, 0, 99996), (1, 3, 24), (0, 0, 100000), (0, 0, 0), (0, 0, 0)], [], [], [], 0, [], []), (29, [(0, (2, 0, 0, [165])), (1, (0, 0, 24, [])), (2, (0, (Int.negSucc 2147483647), 2147483647, [])), (3, (0, 0, 48, []))], [], (0, 0), [(0, 0, 99971), (1, 3, 48), (0, 0, 100000), (0, 0, 0), (0, 0, 0)], [], [], [], 0, [], []), (90, [(0, (2, 0, 0, [165])), (1, (0, 0, 24, [])), (2, (0, (Int.negSucc 2147483647), 2147483647, [])), (3, (0, 0, 47, [])), (4, (0, (Int.negSucc 22), 24, [])), (5, (0, (Int.negSucc 22), 24, [])), (6, (0, 0, 48, []))], [], (0, 0), [(0, 0, 99971), (1, 3, 48), (0, 0, 99910), (1, 6, 48), (0, 0, 100000)], [], [], [], 0, [], []), (172, [(0, (2, 0, 0, [165])), (1, (0, 0, 24, [])), (2, (0, (Int.negSucc 2147483647), 2147483647, [])), (3, (0, 1, 47, [])), (4, (0, (Int.negSucc 22), 24, [])), (5, (0, (Int.negSucc 22), 24, [])), (6, (0, 0, 46, [])), (7, (0, (Int.negSucc 22), 24, [])), (8, (0, (Int.negSucc 22), 24, []))], [(0, (Int.negSucc 2147483647), 2147483647, [])], (0, 0), [(0, 0, 99971), (1, 3, 48), (0, 0, 99910), (1, 6, 48), (0, 0, 99828)], [], [], [], 0, [], []), (173, [(0, (2, 0, 0, [165])), (1, (0, 0, 24, [])), (2, (0, (Int.negSucc 2147483647), 2147483647, [])), (3, (0, 1, 47, [])), (4, (0, (Int.negSucc 22), 24, [])), (5, (0, (Int.negSucc 22), 24, [])), (6, (0, 0, 46, [])), (7, (0, (Int.negSucc 22), 24, [])), (8, (0, (Int.negSucc 22), 24, []))], [(0, 0, 1, []), (0, (Int.negSucc 2147483647), 2147483647, [])], (0, 0), [(0, 0, 99971), (1, 3, 48), (0, 0, 99910), (1, 6, 48), (0, 0, 99827)], [], [], [], 0, [], []), (191, [(0, (2, 0, 0, [165])), (1, (0, 0, 24, [])), (2, (0, (Int.negSucc 2147483647), 2147483647, [])), (3, (0, 1, 47, [])), (4, (0, (Int.negSucc 22), 24, [])), (5, (0, (Int.negSucc 22), 24, [])), (6, (0, 0, 46, [])), (7, (0, (Int.negSucc 22), 24, [])), (8, (0, (Int.negSucc 22), 24, []))], [(0, 0, 1, []), (0, (Int.negSucc 2147483647), 2147483647, [])], (0, 0), [(0, 0, 99971), (1, 3, 48), (0, 0, 99910), (1, 6, 48), (0, 0, 99809)], [], [], [], 0, [], []), (192, [(0, (2, 0, 0, [165])), (1, (0, 0, 24, [])), (2, (0, (Int.negSucc 2147483647), 2147483647, [])), (3, (0, 1, 47, [])), (4, (0, (Int.negSucc 22), 24, [])), (5, (0, (Int.negSucc 22), 24, [])), (6, (0, 0, 46, [])), (7, (0, (Int.negSucc 22), 24, [])), (8, (0, (Int.negSucc 22), 24, []))], [(0, 0, 1, []), (0, 0, 1, []), (0, (Int.negSucc 2147483647), 2147483647, [])], (0, 0), [(0, 0, 99971), (1, 3, 48), (0, 0, 99910), (1, 6, 48), (0, 0, 99808)], [], [], [], 0, [], []), (200, [(0, (2, 0, 0, [165])), (1, (0, 0, 24, [])), (2, (0, (Int.negSucc 2147483647), 2147483647, [])), (3, (0, 1, 47, [])), (4, (0, (Int.negSucc 22), 24, [])), (5, (0, (Int.negSucc 22), 24, [])), (6, (0, 0, 47, [])), (7, (0, (Int.negSucc 22), 24, [])), (8, (0, (Int.negSucc 22), 24, []))], [(0, 0, 1, []), (0, (Int.negSucc 2147483647), 2147483647, [])], (0, 0), [(0, 0, 99971), (1, 3, 48), (0, 0, 99910), (1, 6, 48), (0, 0, 99800)], [], [], [], 0, [], []), (202, [(0, (2, 0, 0, [165])), (1, (0, 0, 24, [])), (2, (0, (Int.negSucc 2147483647), 2147483647, [])), (3, (0, 1, 47, [])), (4, (0, (Int.negSucc 22), 24, [])), (5, (0, (Int.negSucc 22), 24, [])), (6, (0, 0, 47, [])), (7, (0, (Int.negSucc 22), 24, [])), (8, (0, (Int.negSucc 22), 24, []))], [], (0, 0), [(0, 0, 99971), (1, 3, 48), (0, 0, 99910), (1, 6, 48), (0, 0, 99798)], [], [], [], 0, [], [])]
def t_Mo_chordCrossings_ct : ct_L := [(0, 547, e_Mo_min), (0, 855, e_Mo_max), (1, 394, e_Mo_tail), (1, 398, e_Mo_head), (1, 401, e_Mo_edges)]
set_option maxRecDepth 100000 in
theorem c_Mo_chordCrossings {l : Launch} {D : va_G} {kA : Nat → ClassId} (h_Mo_edges : ct_ok PRD l D kA GG y_Mo_edges z_Mo_edges e_Mo_edges) (h_Mo_head : ct_ok PRD l D kA GG y_Mo_head z_Mo_head e_Mo_head) (h_Mo_max : ct_ok PRD l D kA GG y_Mo_max z_Mo_max e_Mo_max) (h_Mo_min : ct_ok PRD l D kA GG y_Mo_min z_Mo_min e_Mo_min) (h_Mo_tail : ct_ok PRD l D kA GG y_Mo_tail z_Mo_tail e_Mo_tail) : ct_ok PRD l D kA GG y_Mo_chordCrossings z_Mo_chordCrossings e_Mo_chordCrossings := chk_all_ok (FT := [(213, 13, 96), (293, 13, 128)]) (PT := []) (CT := t_Mo_chordCrossings_ct) (KT := []) (NT := []) (AN := n_Mo_chordCrossings_an) (OT := []) 5 548 (List.forall_mem_nil _) (by decide +kernel) ⟨List.forall_mem_cons.mpr ⟨gf_Mo_213, List.forall_mem_cons.mpr ⟨gf_Mo_293, List.forall_mem_nil _⟩⟩, List.forall_mem_nil _, List.forall_mem_cons.mpr ⟨cl_static (y := y_Mo_min) h_Mo_min wm_3174 wm_9 wm_3172 wm_3173 ⟨by decide, by decide, by decide +kernel⟩ (by decide), List.forall_mem_cons.mpr ⟨cl_static (y := y_Mo_max) h_Mo_max wm_3430 wm_9 wm_3428 wm_3429 ⟨by decide, by decide, by decide +kernel⟩ (by decide), List.forall_mem_cons.mpr ⟨cl_virtual (y := y_Mo_tail) (ci := 13) rfl rfl ⟨_, _, rfl⟩ (by decide +kernel) h_Mo_tail wm_3045 wm_9 wm_3042 wm_3044 wv_13_8 ⟨by decide, by decide, by decide +kernel⟩ (by decide), List.forall_mem_cons.mpr ⟨cl_virtual (y := y_Mo_head) (ci := 13) rfl rfl ⟨_, _, rfl⟩ (by decide +kernel) h_Mo_head wm_3049 wm_9 wm_3046 wm_3048 wv_13_9 ⟨by decide, by decide, by decide +kernel⟩ (by decide), List.forall_mem_cons.mpr ⟨cl_virtual (y := y_Mo_edges) (ci := 13) rfl rfl ⟨_, _, rfl⟩ (by decide +kernel) h_Mo_edges wm_3037 wm_9 wm_3034 wm_3036 wv_13_6 ⟨by decide, by decide, by decide +kernel⟩ (by decide), List.forall_mem_nil _⟩⟩⟩⟩⟩, List.forall_mem_nil _, List.forall_mem_nil _, GG_pl⟩ (by decide +kernel)
def n_Dr_isStruck_an : List an_T := [(2, [(0, (2, 0, 0, [0])), (1, (0, 0, 47, [])), (2, (0, 0, 23, [])), (3, (0, 0, 25, []))], [], (0, 0), [(0, 0, 99998), (1, 3, 25), (0, 0, 100000)], [], [], [], 0, [], [])]
def t_Dr_isStruck_ct : ct_L := [(1, 206, e_Dr_isOnPiece)]
set_option maxRecDepth 100000 in
theorem c_Dr_isStruck {l : Launch} {D : va_G} {kA : Nat → ClassId} (h_Dr_isOnPiece : ct_ok PRD l D kA GG y_Dr_isOnPiece z_Dr_isOnPiece e_Dr_isOnPiece) : ct_ok PRD l D kA GG y_Dr_isStruck z_Dr_isStruck e_Dr_isStruck := chk_all_ok (FT := [(15, 0, 2), (19, 0, 3), (22, 0, 4)]) (PT := []) (CT := t_Dr_isStruck_ct) (KT := []) (NT := []) (AN := n_Dr_isStruck_an) (OT := []) 3 200 (List.forall_mem_nil _) (by decide +kernel) ⟨List.forall_mem_cons.mpr ⟨gf_Dr_15, List.forall_mem_cons.mpr ⟨gf_Dr_19, List.forall_mem_cons.mpr ⟨gf_Dr_22, List.forall_mem_nil _⟩⟩⟩, List.forall_mem_nil _, List.forall_mem_cons.mpr ⟨cl_virtual (y := y_Dr_isOnPiece) (ci := 0) rfl rfl ⟨_, _, rfl⟩ (by decide +kernel) h_Dr_isOnPiece wm_2034 wm_8 wm_2031 wm_2033 wv_9_15 ⟨by decide, by decide, by decide +kernel⟩ (by decide), List.forall_mem_nil _⟩, List.forall_mem_nil _, List.forall_mem_nil _, GG_pl⟩ (by decide +kernel)
def n_Dr_wholeArea_an : List an_T := []
def t_Dr_wholeArea_ct : ct_L := [(1, 214, e_Dr_measure)]
set_option maxRecDepth 100000 in
theorem c_Dr_wholeArea {l : Launch} {D : va_G} {kA : Nat → ClassId} (h_Dr_measure : ct_ok PRD l D kA GG y_Dr_measure z_Dr_measure e_Dr_measure) : ct_ok PRD l D kA GG y_Dr_wholeArea z_Dr_wholeArea e_Dr_wholeArea := chk_all_ok (FT := [(62, 0, 17), (65, 0, 18), (68, 0, 19), (71, 0, 20)]) (PT := []) (CT := t_Dr_wholeArea_ct) (KT := []) (NT := []) (AN := n_Dr_wholeArea_an) (OT := []) 0 200 (List.forall_mem_nil _) (by decide +kernel) ⟨List.forall_mem_cons.mpr ⟨gf_Dr_62, List.forall_mem_cons.mpr ⟨gf_Dr_65, List.forall_mem_cons.mpr ⟨gf_Dr_68, List.forall_mem_cons.mpr ⟨gf_Dr_71, List.forall_mem_nil _⟩⟩⟩⟩, List.forall_mem_nil _, List.forall_mem_cons.mpr ⟨cl_virtual (y := y_Dr_measure) (ci := 0) rfl rfl ⟨_, _, rfl⟩ (by decide +kernel) h_Dr_measure wm_2066 wm_8 wm_2063 wm_2064 wm_2065 ⟨by decide, by decide, by decide +kernel⟩ (by decide), List.forall_mem_nil _⟩, List.forall_mem_nil _, List.forall_mem_nil _, GG_pl⟩ (by decide +kernel)
def n_Mo_at2_an : List an_T := []
def t_Mo_at2_ct : ct_L := [(0, 387, e_Mo_in), (0, 521, e_Mo_isPlace), (1, 401, e_Mo_edges), (1, 475, e_Mo_nodes), (1, 527, e_Mo_take)]
set_option maxRecDepth 100000 in
theorem c_Mo_at2 {l : Launch} {D : va_G} {kA : Nat → ClassId} (h_Mo_edges : ct_ok PRD l D kA GG y_Mo_edges z_Mo_edges e_Mo_edges) (h_Mo_in : ct_ok PRD l D kA GG y_Mo_in z_Mo_in e_Mo_in) (h_Mo_isPlace : ct_ok PRD l D kA GG y_Mo_isPlace z_Mo_isPlace e_Mo_isPlace) (h_Mo_nodes : ct_ok PRD l D kA GG y_Mo_nodes z_Mo_nodes e_Mo_nodes) (h_Mo_take : ct_ok PRD l D kA GG y_Mo_take z_Mo_take e_Mo_take) : ct_ok PRD l D kA GG y_Mo_at2 z_Mo_at2 e_Mo_at2 := chk_all_ok (FT := [(120, 13, 61), (123, 13, 62), (126, 13, 63), (129, 13, 64), (132, 13, 65), (135, 13, 66)]) (PT := []) (CT := t_Mo_at2_ct) (KT := [(1, 775, .int (Int32.ofInt (-2147483648)), (0, -2147483648, -2147483648, []))]) (NT := []) (AN := n_Mo_at2_an) (OT := []) 0 584 (List.forall_mem_nil _) (by decide +kernel) ⟨List.forall_mem_cons.mpr ⟨gf_Mo_120, List.forall_mem_cons.mpr ⟨gf_Mo_123, List.forall_mem_cons.mpr ⟨gf_Mo_126, List.forall_mem_cons.mpr ⟨gf_Mo_129, List.forall_mem_cons.mpr ⟨gf_Mo_132, List.forall_mem_cons.mpr ⟨gf_Mo_135, List.forall_mem_nil _⟩⟩⟩⟩⟩⟩, List.forall_mem_nil _, List.forall_mem_cons.mpr ⟨cl_static (y := y_Mo_in) h_Mo_in wm_2971 wm_9 wm_2969 wm_2970 ⟨by decide, by decide, by decide +kernel⟩ (by decide), List.forall_mem_cons.mpr ⟨cl_static (y := y_Mo_isPlace) h_Mo_isPlace wm_2978 wm_9 wm_2976 wm_2977 ⟨by decide, by decide, by decide +kernel⟩ (by decide), List.forall_mem_cons.mpr ⟨cl_virtual (y := y_Mo_edges) (ci := 13) rfl rfl ⟨_, _, rfl⟩ (by decide +kernel) h_Mo_edges wm_3037 wm_9 wm_3034 wm_3036 wv_13_6 ⟨by decide, by decide, by decide +kernel⟩ (by decide), List.forall_mem_cons.mpr ⟨cl_virtual (y := y_Mo_nodes) (ci := 13) rfl rfl ⟨_, _, rfl⟩ (by decide +kernel) h_Mo_nodes wm_3025 wm_9 wm_3022 wm_3024 wv_13_3 ⟨by decide, by decide, by decide +kernel⟩ (by decide), List.forall_mem_cons.mpr ⟨cl_virtual (y := y_Mo_take) (ci := 13) rfl rfl ⟨_, _, rfl⟩ (by decide +kernel) h_Mo_take wm_3091 wm_9 wm_3088 wm_3090 wv_14_2 ⟨by decide, by decide, by decide +kernel⟩ (by decide), List.forall_mem_nil _⟩⟩⟩⟩⟩, List.forall_mem_cons.mpr ⟨kx_Mo_1_775, List.forall_mem_nil _⟩, List.forall_mem_nil _, GG_pl⟩ (by decide +kernel)
def n_Mo_isShared_an : List an_T := [(3, [(0, (2, 0, 0, [165])), (1, (0, 0, 47, [])), (2, (0, 0, 47, [])), (3, (1, (Int.negSucc 300000010), 300000000, [])), (5, (1, (Int.negSucc 899999999), 900000000, [])), (7, (0, 0, 24, []))], [], (0, 0), [(0, 0, 99997), (1, 5, 24), (0, 0, 100000)], [], [], [], 0, [], [])]
def t_Mo_isShared_ct : ct_L := [(1, 405, e_Mo_has), (1, 475, e_Mo_nodes), (1, 1023, e_Mo_px), (1, 1029, e_Mo_py)]
set_option maxRecDepth 100000 in
theorem c_Mo_isShared {l : Launch} {D : va_G} {kA : Nat → ClassId} (h_Mo_has : ct_ok PRD l D kA GG y_Mo_has z_Mo_has e_Mo_has) (h_Mo_nodes : ct_ok PRD l D kA GG y_Mo_nodes z_Mo_nodes e_Mo_nodes) (h_Mo_px : ct_ok PRD l D kA GG y_Mo_px z_Mo_px e_Mo_px) (h_Mo_py : ct_ok PRD l D kA GG y_Mo_py z_Mo_py e_Mo_py) : ct_ok PRD l D kA GG y_Mo_isShared z_Mo_isShared e_Mo_isShared := chk_all_ok (FT := []) (PT := []) (CT := t_Mo_isShared_ct) (KT := []) (NT := []) (AN := n_Mo_isShared_an) (OT := []) 3 200 (List.forall_mem_nil _) (by decide +kernel) ⟨List.forall_mem_nil _, List.forall_mem_nil _, List.forall_mem_cons.mpr ⟨cl_virtual (y := y_Mo_has) (ci := 13) rfl rfl ⟨_, _, rfl⟩ (by decide +kernel) h_Mo_has wm_3041 wm_9 wm_3038 wm_3040 wv_13_7 ⟨by decide, by decide, by decide +kernel⟩ (by decide), List.forall_mem_cons.mpr ⟨cl_virtual (y := y_Mo_nodes) (ci := 13) rfl rfl ⟨_, _, rfl⟩ (by decide +kernel) h_Mo_nodes wm_3025 wm_9 wm_3022 wm_3024 wv_13_3 ⟨by decide, by decide, by decide +kernel⟩ (by decide), List.forall_mem_cons.mpr ⟨cl_virtual (y := y_Mo_px) (ci := 13) rfl rfl ⟨_, _, rfl⟩ (by decide +kernel) h_Mo_px wm_3675 wm_9 wm_3672 wm_3674 wv_21_14 ⟨by decide, by decide, by decide +kernel⟩ (by decide), List.forall_mem_cons.mpr ⟨cl_virtual (y := y_Mo_py) (ci := 13) rfl rfl ⟨_, _, rfl⟩ (by decide +kernel) h_Mo_py wm_3679 wm_9 wm_3676 wm_3678 wv_21_15 ⟨by decide, by decide, by decide +kernel⟩ (by decide), List.forall_mem_nil _⟩⟩⟩⟩, List.forall_mem_nil _, List.forall_mem_nil _, GG_pl⟩ (by decide +kernel)
def n_Mo_letter_an : List an_T := []
def t_Mo_letter_ct : ct_L := [(0, 387, e_Mo_in), (0, 521, e_Mo_isPlace), (1, 475, e_Mo_nodes), (1, 509, e_Mo_groups), (1, 527, e_Mo_take)]
set_option maxRecDepth 100000 in
theorem c_Mo_letter {l : Launch} {D : va_G} {kA : Nat → ClassId} (h_Mo_groups : ct_ok PRD l D kA GG y_Mo_groups z_Mo_groups e_Mo_groups) (h_Mo_in : ct_ok PRD l D kA GG y_Mo_in z_Mo_in e_Mo_in) (h_Mo_isPlace : ct_ok PRD l D kA GG y_Mo_isPlace z_Mo_isPlace e_Mo_isPlace) (h_Mo_nodes : ct_ok PRD l D kA GG y_Mo_nodes z_Mo_nodes e_Mo_nodes) (h_Mo_take : ct_ok PRD l D kA GG y_Mo_take z_Mo_take e_Mo_take) : ct_ok PRD l D kA GG y_Mo_letter z_Mo_letter e_Mo_letter := chk_all_ok (FT := [(16, 13, 2), (391, 13, 5)]) (PT := []) (CT := t_Mo_letter_ct) (KT := []) (NT := []) (AN := n_Mo_letter_an) (OT := []) 0 528 (List.forall_mem_nil _) (by decide +kernel) ⟨List.forall_mem_cons.mpr ⟨gf_Mo_16, List.forall_mem_cons.mpr ⟨gf_Mo_391, List.forall_mem_nil _⟩⟩, List.forall_mem_nil _, List.forall_mem_cons.mpr ⟨cl_static (y := y_Mo_in) h_Mo_in wm_2971 wm_9 wm_2969 wm_2970 ⟨by decide, by decide, by decide +kernel⟩ (by decide), List.forall_mem_cons.mpr ⟨cl_static (y := y_Mo_isPlace) h_Mo_isPlace wm_2978 wm_9 wm_2976 wm_2977 ⟨by decide, by decide, by decide +kernel⟩ (by decide), List.forall_mem_cons.mpr ⟨cl_virtual (y := y_Mo_nodes) (ci := 13) rfl rfl ⟨_, _, rfl⟩ (by decide +kernel) h_Mo_nodes wm_3025 wm_9 wm_3022 wm_3024 wv_13_3 ⟨by decide, by decide, by decide +kernel⟩ (by decide), List.forall_mem_cons.mpr ⟨cl_virtual (y := y_Mo_groups) (ci := 13) rfl rfl ⟨_, _, rfl⟩ (by decide +kernel) h_Mo_groups wm_3070 wm_9 wm_3067 wm_3069 wv_13_14 ⟨by decide, by decide, by decide +kernel⟩ (by decide), List.forall_mem_cons.mpr ⟨cl_virtual (y := y_Mo_take) (ci := 13) rfl rfl ⟨_, _, rfl⟩ (by decide +kernel) h_Mo_take wm_3091 wm_9 wm_3088 wm_3090 wv_14_2 ⟨by decide, by decide, by decide +kernel⟩ (by decide), List.forall_mem_nil _⟩⟩⟩⟩⟩, List.forall_mem_nil _, List.forall_mem_nil _, GG_pl⟩ (by decide +kernel)
def n_Mo_put_an : List an_T := []
def t_Mo_put_ct : ct_L := [(0, 387, e_Mo_in), (0, 521, e_Mo_isPlace), (1, 401, e_Mo_edges), (1, 475, e_Mo_nodes), (1, 527, e_Mo_take)]
set_option maxRecDepth 100000 in
theorem c_Mo_put {l : Launch} {D : va_G} {kA : Nat → ClassId} (h_Mo_edges : ct_ok PRD l D kA GG y_Mo_edges z_Mo_edges e_Mo_edges) (h_Mo_in : ct_ok PRD l D kA GG y_Mo_in z_Mo_in e_Mo_in) (h_Mo_isPlace : ct_ok PRD l D kA GG y_Mo_isPlace z_Mo_isPlace e_Mo_isPlace) (h_Mo_nodes : ct_ok PRD l D kA GG y_Mo_nodes z_Mo_nodes e_Mo_nodes) (h_Mo_take : ct_ok PRD l D kA GG y_Mo_take z_Mo_take e_Mo_take) : ct_ok PRD l D kA GG y_Mo_put z_Mo_put e_Mo_put := chk_all_ok (FT := [(120, 13, 61), (123, 13, 62), (126, 13, 63), (129, 13, 64), (132, 13, 65), (135, 13, 66)]) (PT := []) (CT := t_Mo_put_ct) (KT := [(1, 546, .int (1000000), (0, 1000000, 1000000, [])), (1, 776, .int (Int32.ofInt (-1000000)), (0, -1000000, -1000000, []))]) (NT := []) (AN := n_Mo_put_an) (OT := []) 0 560 (List.forall_mem_nil _) (by decide +kernel) ⟨List.forall_mem_cons.mpr ⟨gf_Mo_120, List.forall_mem_cons.mpr ⟨gf_Mo_123, List.forall_mem_cons.mpr ⟨gf_Mo_126, List.forall_mem_cons.mpr ⟨gf_Mo_129, List.forall_mem_cons.mpr ⟨gf_Mo_132, List.forall_mem_cons.mpr ⟨gf_Mo_135, List.forall_mem_nil _⟩⟩⟩⟩⟩⟩, List.forall_mem_nil _, List.forall_mem_cons.mpr ⟨cl_static (y := y_Mo_in) h_Mo_in wm_2971 wm_9 wm_2969 wm_2970 ⟨by decide, by decide, by decide +kernel⟩ (by decide), List.forall_mem_cons.mpr ⟨cl_static (y := y_Mo_isPlace) h_Mo_isPlace wm_2978 wm_9 wm_2976 wm_2977 ⟨by decide, by decide, by decide +kernel⟩ (by decide), List.forall_mem_cons.mpr ⟨cl_virtual (y := y_Mo_edges) (ci := 13) rfl rfl ⟨_, _, rfl⟩ (by decide +kernel) h_Mo_edges wm_3037 wm_9 wm_3034 wm_3036 wv_13_6 ⟨by decide, by decide, by decide +kernel⟩ (by decide), List.forall_mem_cons.mpr ⟨cl_virtual (y := y_Mo_nodes) (ci := 13) rfl rfl ⟨_, _, rfl⟩ (by decide +kernel) h_Mo_nodes wm_3025 wm_9 wm_3022 wm_3024 wv_13_3 ⟨by decide, by decide, by decide +kernel⟩ (by decide), List.forall_mem_cons.mpr ⟨cl_virtual (y := y_Mo_take) (ci := 13) rfl rfl ⟨_, _, rfl⟩ (by decide +kernel) h_Mo_take wm_3091 wm_9 wm_3088 wm_3090 wv_14_2 ⟨by decide, by decide, by decide +kernel⟩ (by decide), List.forall_mem_nil _⟩⟩⟩⟩⟩, List.forall_mem_cons.mpr ⟨kx_Mo_1_546, List.forall_mem_cons.mpr ⟨kx_Mo_1_776, List.forall_mem_nil _⟩⟩, List.forall_mem_nil _, GG_pl⟩ (by decide +kernel)
set_option maxHeartbeats 4000000 in
theorem vc_Mo_same_0_0 (x4 : Int) (steps_0 : Int) (gx : Int) (k4 : 0 ≤ x4 ∧ x4 ≤ 0) (kz_0_27 : 0 ≤ steps_0 ∧ steps_0 ≤ 20000) (ex2 : gx = 40000 + ((-2) * steps_0 + (1 * x4 + 0))) : 1 * gx + (2 * steps_0 + ((-1) * x4 + 0)) ≤ 40000 := by
  first | assumption | omega | grind
set_option maxHeartbeats 4000000 in
theorem vc_Mo_same_0_1 (x4 : Int) (steps_0 : Int) (gx : Int) (k4 : 0 ≤ x4 ∧ x4 ≤ 0) (kz_0_27 : 0 ≤ steps_0 ∧ steps_0 ≤ 20000) (ex2 : gx = 40000 + ((-2) * steps_0 + (1 * x4 + 0))) : (-1) * gx + ((-2) * steps_0 + (1 * x4 + 0)) ≤ (-40000) := by
  first | assumption | omega | grind
def o_Mo_same_0 : or_T := (130, 6, [(0, (2, 0, 0, [165])), (4, (0, 0, 0, []))], [], [], [(0, -1, 40100, [])], [(20, [6, 0, 4], [30, 40000, 1, 0, 0, 2, 1, 27, -1, 0, 0]), (20, [6, 0, 4], [30, -40000, -1, 0, 0, -2, 1, 27, 1, 0, 0])], [], [])
theorem oo_Mo_same_0 {kA : Nat → ClassId} : or_ok PRD kA GG o_Mo_same_0 := by
  refine or_mk fun A ta ws vs hD hth hl => ?_
  intro t0 r0 t4 k4
  have kz_0_27 := fdq_25 hD hth r0
  obtain ⟨x, ex, hx⟩ := iv_ex (ta := ta) (lo := (-1)) (hi := 40100) (z := 40000 + ((-2) * w_fi ws (n_v vs 0) 27 + (1 * v_iv (n_v vs 4) + 0))) (by omega) (by omega) (by omega) (by omega)
  have ex2 : v_iv (Value.int x) = 40000 + ((-2) * w_fi ws (n_v vs 0) 27 + (1 * v_iv (n_v vs 4) + 0)) := ex
  have ex3 : (-1) ≤ v_iv (Value.int x) ∧ v_iv (Value.int x) ≤ 40100 := tv_rng hx
  have e_0 : n_v (vs ++ [Value.int x]) 0 = n_v vs 0 := n_v_old (by rw [hl]; decide)
  have e_4 : n_v (vs ++ [Value.int x]) 4 = n_v vs 4 := n_v_old (by rw [hl]; decide)
  have e_6 : n_v (vs ++ [Value.int x]) 6 = Value.int x := n_v_new hl
  have nf0 : fc_1 PRD (20, [6, 0, 4], [30, 40000, 1, 0, 0, 2, 1, 27, -1, 0, 0]) ws (vs ++ [Value.int x]) := by
    refine ⟨nf_inA hl rfl, sgq_187 ?_⟩
    · show 1 * v_iv (n_v (vs ++ [Value.int x]) 6) + (2 * w_fi ws (n_v (vs ++ [Value.int x]) 0) 27 + ((-1) * v_iv (n_v (vs ++ [Value.int x]) 4) + 0)) ≤ 40000
      simp only [e_0, e_4, e_6]
      exact vc_Mo_same_0_0 (v_iv (n_v vs 4)) (w_fi ws (n_v vs 0) 27) (v_iv (Value.int x)) k4 kz_0_27 ex2
  have nf1 : fc_1 PRD (20, [6, 0, 4], [30, -40000, -1, 0, 0, -2, 1, 27, 1, 0, 0]) ws (vs ++ [Value.int x]) := by
    refine ⟨nf_inA hl rfl, sgq_188 ?_⟩
    · show (-1) * v_iv (n_v (vs ++ [Value.int x]) 6) + ((-2) * w_fi ws (n_v (vs ++ [Value.int x]) 0) 27 + (1 * v_iv (n_v (vs ++ [Value.int x]) 4) + 0)) ≤ (-40000)
      simp only [e_0, e_4, e_6]
      exact vc_Mo_same_0_1 (v_iv (n_v vs 4)) (w_fi ws (n_v vs 0) 27) (v_iv (Value.int x)) k4 kz_0_27 ex2
  exact ⟨(fun _ h => (by cases h)), [Value.int x], ag_one hx, List.forall_mem_cons.mpr ⟨⟨show (20 : Nat) < 100 from by decide, nf0⟩, List.forall_mem_cons.mpr ⟨⟨show (20 : Nat) < 100 from by decide, nf1⟩, (fun _ h => (by cases h))⟩⟩, (fun _ h => (by cases h))⟩
set_option maxHeartbeats 4000000 in
theorem vc_Mo_same_1_0 (x4 : Int) (x7 : Int) (x12 : Int) (steps_0 : Int) (gx : Int) (k4 : 0 ≤ x4 ∧ x4 ≤ 23) (k7 : (-1) ≤ x7 ∧ x7 ≤ 40100) (k12 : 0 ≤ x12 ∧ x12 ≤ 0) (f5 : 1 * x7 + (2 * steps_0 + ((-1) * x4 + 0)) ≤ 40000) (f6 : (-1) * x7 + ((-2) * steps_0 + (1 * x4 + 0)) ≤ (-40000)) (kz_0_27 : 0 ≤ steps_0 ∧ steps_0 ≤ 20000) (ex2 : gx = 0 + (1 * x7 + 0)) : (-2) * steps_0 + (1 * x4 + (2 * x12 + ((-1) * gx + 0))) ≤ (-40000) := by
  first | assumption | omega | grind
set_option maxHeartbeats 4000000 in
theorem vc_Mo_same_1_1 (x3 : Int) (x4 : Int) (x7 : Int) (x9 : Int) (x11 : Int) (x12 : Int) (mapTried_0 : Int → Int) (steps_0 : Int) (gx : Int) (k3 : 1 ≤ x3 ∧ x3 ≤ 24) (k4 : 0 ≤ x4 ∧ x4 ≤ 23) (k7 : (-1) ≤ x7 ∧ x7 ≤ 40100) (k9 : (-1) ≤ x9 ∧ x9 ≤ 23) (k11 : 0 ≤ x11 ∧ x11 ≤ 24) (k12 : 0 ≤ x12 ∧ x12 ≤ 0) (d0 : x9 + 1 ≤ x11 ∧ x11 ≤ x9 + 1) (d1 : x3 + (-4294967296) ≤ x4 ∧ x4 ≤ x3 + (-1)) (h1 : x9 = mapTried_0 (x4)) (f5 : 1 * x7 + (2 * steps_0 + ((-1) * x4 + 0)) ≤ 40000) (f6 : (-1) * x7 + ((-2) * steps_0 + (1 * x4 + 0)) ≤ (-40000)) (kz_0_27 : 0 ≤ steps_0 ∧ steps_0 ≤ 20000) (ex2 : gx = 0 + (1 * x7 + 0)) : 1 * x11 + ((-1) * x3 + (25 * x12 + 0)) ≤ 24 := by
  first | assumption | omega | grind
def o_Mo_same_1 : or_T := (155, 13, [(0, (2, 0, 0, [165])), (3, (0, 1, 24, [])), (4, (0, 0, 23, [])), (7, (0, -1, 40100, [])), (8, (2, 0, 0, [179])), (9, (0, -1, 23, [])), (10, (0, 1, 1, [])), (11, (0, 0, 24, [])), (12, (0, 0, 0, []))], [(1, [11, 9, 10], []), (10, [9, 8, 4], []), (9, [8, 0], [24]), (7, [4, 3], [2]), (8, [4], [3]), (20, [7, 0, 4], [30, 40000, 1, 0, 0, 2, 1, 27, -1, 0, 0]), (20, [7, 0, 4], [30, -40000, -1, 0, 0, -2, 1, 27, 1, 0, 0])], [], [(0, -1, 40100, [])], [(20, [0, 4, 12, 13], [30, -40000, -2, 1, 27, 1, 0, 0, 2, 0, 0, -1, 0, 0]), (23, [11, 3, 12], [24, 1, -1, 25])], [(13, 7, 0, 0)], [(11, 9, 1, 1), (4, 3, -4294967296, -1), (4, 3, -4294967296, 0)])
theorem oo_Mo_same_1 {kA : Nat → ClassId} : or_ok PRD kA GG o_Mo_same_1 := by
  refine or_mk fun A ta ws vs hD hth hl => ?_
  intro t0 r0 t3 k3 t4 k4 t7 k7 t8 r8 t9 k9 t10 k10 t11 k11 t12 k12 d0 d1 d2 f0 f1 f2 f3 f4 f5 f6
  replace f0 := shm_12 f0
  replace f1 := shm_107 f1
  replace f2 := shm_189 f2
  replace f3 := shm_6 f3
  replace f4 := shm_32 f4
  replace f5 := shm_187 f5
  replace f6 := shm_188 f6
  have cr_0_24 := fdq_26 hD hth r0
  have ad_8 : v_ad (n_v vs 8) = w_ar ws (n_v vs 0) 24 := congrArg v_ad f2
  simp only [ad_8] at f1
  have h1 : v_iv (n_v vs 9) = w_ei ws (w_ar ws (n_v vs 0) 24) (v_iv (n_v vs 4)) := f1
  have kz_0_27 := fdq_25 hD hth r0
  obtain ⟨x, ex, hx⟩ := iv_ex (ta := ta) (lo := (-1)) (hi := 40100) (z := 0 + (1 * v_iv (n_v vs 7) + 0)) (by omega) (by omega) (by omega) (by omega)
  have ex2 : v_iv (Value.int x) = 0 + (1 * v_iv (n_v vs 7) + 0) := ex
  have ex3 : (-1) ≤ v_iv (Value.int x) ∧ v_iv (Value.int x) ≤ 40100 := tv_rng hx
  have e_0 : n_v (vs ++ [Value.int x]) 0 = n_v vs 0 := n_v_old (by rw [hl]; decide)
  have e_3 : n_v (vs ++ [Value.int x]) 3 = n_v vs 3 := n_v_old (by rw [hl]; decide)
  have e_4 : n_v (vs ++ [Value.int x]) 4 = n_v vs 4 := n_v_old (by rw [hl]; decide)
  have e_11 : n_v (vs ++ [Value.int x]) 11 = n_v vs 11 := n_v_old (by rw [hl]; decide)
  have e_12 : n_v (vs ++ [Value.int x]) 12 = n_v vs 12 := n_v_old (by rw [hl]; decide)
  have e_13 : n_v (vs ++ [Value.int x]) 13 = Value.int x := n_v_new hl
  have nf0 : fc_1 PRD (20, [0, 4, 12, 13], [30, -40000, -2, 1, 27, 1, 0, 0, 2, 0, 0, -1, 0, 0]) ws (vs ++ [Value.int x]) := by
    refine ⟨nf_inA hl rfl, sgq_190 ?_⟩
    · show (-2) * w_fi ws (n_v (vs ++ [Value.int x]) 0) 27 + (1 * v_iv (n_v (vs ++ [Value.int x]) 4) + (2 * v_iv (n_v (vs ++ [Value.int x]) 12) + ((-1) * v_iv (n_v (vs ++ [Value.int x]) 13) + 0))) ≤ (-40000)
      simp only [e_0, e_4, e_12, e_13]
      exact vc_Mo_same_1_0 (v_iv (n_v vs 4)) (v_iv (n_v vs 7)) (v_iv (n_v vs 12)) (w_fi ws (n_v vs 0) 27) (v_iv (Value.int x)) k4 k7 k12 f5 f6 kz_0_27 ex2
  have nf1 : fc_1 PRD (23, [11, 3, 12], [24, 1, -1, 25]) ws (vs ++ [Value.int x]) := by
    refine ⟨nf_inA hl rfl, sgq_191 ?_⟩
    · show 1 * v_iv (n_v (vs ++ [Value.int x]) 11) + ((-1) * v_iv (n_v (vs ++ [Value.int x]) 3) + (25 * v_iv (n_v (vs ++ [Value.int x]) 12) + 0)) ≤ 24
      simp only [e_3, e_11, e_12]
      exact vc_Mo_same_1_1 (v_iv (n_v vs 3)) (v_iv (n_v vs 4)) (v_iv (n_v vs 7)) (v_iv (n_v vs 9)) (v_iv (n_v vs 11)) (v_iv (n_v vs 12)) (w_ei ws (w_ar ws (n_v vs 0) 24)) (w_fi ws (n_v vs 0) 27) (v_iv (Value.int x)) k3 k4 k7 k9 k11 k12 d0 d1 h1 f5 f6 kz_0_27 ex2
  obtain ⟨x0, e0, _, _⟩ := tv_int t7 rfl
  have e1 : v_iv (n_v vs 7) = x0.toInt := by rw [e0]; rfl
  have ho : sy_ofs (vs ++ [Value.int x]) (13, 7, 0, 0) := by
    refine ⟨x, x0, by rw [List.getElem?_append_right (by rw [hl]; decide), hl]; rfl, ?_, ?_, ?_⟩
    · rw [List.getElem?_append_left (by rw [hl]; decide)]; exact n_v_some (by rw [hl]; decide) e0
    · show x0.toInt + 0 ≤ x.toInt; omega
    · show x.toInt ≤ x0.toInt + 0; omega
  exact ⟨(fun _ h => (by cases h)), [Value.int x], ag_one hx, List.forall_mem_cons.mpr ⟨⟨show (20 : Nat) < 100 from by decide, nf0⟩, List.forall_mem_cons.mpr ⟨⟨show (23 : Nat) < 100 from by decide, nf1⟩, (fun _ h => (by cases h))⟩⟩, List.forall_mem_cons.mpr ⟨ho, (fun _ h => (by cases h))⟩⟩
set_option maxHeartbeats 4000000 in
theorem vc_Mo_same_2_0 (x12 : Int) (steps_0 : Int) (steps_1 : Int) (gx : Int) (k12 : (-1) ≤ x12 ∧ x12 ≤ 22) (fe_0_27_1 : steps_0 = steps_1) (kz_0_27 : 0 ≤ steps_0 ∧ steps_0 ≤ 20000) (ex2 : gx = 40000 + ((-2) * steps_0 + (1 * x12 + 0))) : 1 * gx + (2 * steps_0 + ((-1) * x12 + 0)) ≤ 40000 := by
  subst fe_0_27_1
  first | assumption | omega | grind
set_option maxHeartbeats 4000000 in
theorem vc_Mo_same_2_1 (x12 : Int) (steps_0 : Int) (steps_1 : Int) (gx : Int) (k12 : (-1) ≤ x12 ∧ x12 ≤ 22) (fe_0_27_1 : steps_0 = steps_1) (kz_0_27 : 0 ≤ steps_0 ∧ steps_0 ≤ 20000) (ex2 : gx = 40000 + ((-2) * steps_0 + (1 * x12 + 0))) : (-1) * gx + ((-2) * steps_0 + (1 * x12 + 0)) ≤ (-40000) := by
  subst fe_0_27_1
  first | assumption | omega | grind
def o_Mo_same_2 : or_T := (130, 13, [(0, (2, 0, 0, [165])), (3, (0, 1, 24, [])), (4, (0, 0, 23, [])), (5, (0, 1, 24, [])), (6, (0, 0, 0, [])), (8, (0, -1, 40100, [])), (9, (2, 0, 0, [179])), (11, (0, -1, -1, [])), (12, (0, -1, 22, []))], [(1, [12, 4, 11], []), (8, [6], [0]), (20, [0, 4, 6, 8], [30, -40000, -2, 1, 27, 1, 0, 0, 2, 0, 0, -1, 0, 0]), (23, [5, 3, 6], [24, 1, -1, 25]), (100, [9, 4, 10], []), (8, [6], [0]), (9, [9, 0], [24]), (7, [5, 3], [3]), (20, [0, 4, 6, 8], [30, -40000, -2, 1, 27, 1, 0, 0, 2, 0, 0, -1, 0, 0]), (23, [5, 3, 6], [24, 1, -1, 25])], [], [(0, -1, 40100, [])], [(20, [13, 0, 12], [30, 40000, 1, 0, 0, 2, 1, 27, -1, 0, 0]), (20, [13, 0, 12], [30, -40000, -1, 0, 0, -2, 1, 27, 1, 0, 0])], [(13, 8, -1000000000000, -1)], [(12, 4, -1, -1), (12, 3, -4294967296, -2), (5, 3, 0, 4294967296), (4, 3, -4294967296, -1)])
theorem oo_Mo_same_2 {kA : Nat → ClassId} : or_ok PRD kA GG o_Mo_same_2 := by
  refine or_mk fun A ta ws vs hD hth hl => ?_
  intro t0 r0 t3 k3 t4 k4 t5 k5 t6 k6 t8 k8 t9 r9 t11 k11 t12 k12 d0 d1 d2 d3 f0 f1 f2 f3 ta1 w1 le1 s1 f5 f6 f7 f8 f9
  replace f0 := shm_12 f0
  replace f1 := shm_192 f1
  replace f2 := shm_190 f2
  replace f3 := shm_191 f3
  have s1 : (∀ b j, w_el ws b j = if b = v_ad (n_v vs 9) ∧ j = (v_iv (n_v vs 4)).toNat then v_iv (n_v vs 10) else w_el w1 b j) ∧ ∀ b k, w_fd ws b k = w_fd w1 b k := s1.2
  replace f5 := shm_192 f5
  replace f6 := shm_189 f6
  replace f7 := shm_2 f7
  replace f8 := shm_190 f8
  replace f9 := shm_191 f9
  have ar_0_24_1 : w_ar w1 (n_v vs 0) 24 = w_ar ws (n_v vs 0) 24 := congrArg v_ad (s1.2 _ _).symm
  have cr_0_24 := fdq_26 hD hth r0
  have ad_9 : v_ad (n_v vs 9) = w_ar ws (n_v vs 0) 24 := (congrArg v_ad f6).trans ar_0_24_1
  have fe_0_27_1 : w_fi ws (n_v vs 0) 27 = w_fi w1 (n_v vs 0) 27 := congrArg v_iv (s1.2 _ _)
  have kz_0_27 := fdq_25 hD hth r0
  have kb_0_27 := fdq_25 hD hth r0
  obtain ⟨x, ex, hx⟩ := iv_ex (ta := ta) (lo := (-1)) (hi := 40100) (z := 40000 + ((-2) * w_fi ws (n_v vs 0) 27 + (1 * v_iv (n_v vs 12) + 0))) (by omega) (by omega) (by omega) (by omega)
  have ex2 : v_iv (Value.int x) = 40000 + ((-2) * w_fi ws (n_v vs 0) 27 + (1 * v_iv (n_v vs 12) + 0)) := ex
  have ex3 : (-1) ≤ v_iv (Value.int x) ∧ v_iv (Value.int x) ≤ 40100 := tv_rng hx
  have e_0 : n_v (vs ++ [Value.int x]) 0 = n_v vs 0 := n_v_old (by rw [hl]; decide)
  have e_12 : n_v (vs ++ [Value.int x]) 12 = n_v vs 12 := n_v_old (by rw [hl]; decide)
  have e_13 : n_v (vs ++ [Value.int x]) 13 = Value.int x := n_v_new hl
  have nf0 : fc_1 PRD (20, [13, 0, 12], [30, 40000, 1, 0, 0, 2, 1, 27, -1, 0, 0]) ws (vs ++ [Value.int x]) := by
    refine ⟨nf_inA hl rfl, sgq_187 ?_⟩
    · show 1 * v_iv (n_v (vs ++ [Value.int x]) 13) + (2 * w_fi ws (n_v (vs ++ [Value.int x]) 0) 27 + ((-1) * v_iv (n_v (vs ++ [Value.int x]) 12) + 0)) ≤ 40000
      simp only [e_0, e_12, e_13]
      exact vc_Mo_same_2_0 (v_iv (n_v vs 12)) (w_fi ws (n_v vs 0) 27) (w_fi w1 (n_v vs 0) 27) (v_iv (Value.int x)) k12 fe_0_27_1 kz_0_27 ex2
  have nf1 : fc_1 PRD (20, [13, 0, 12], [30, -40000, -1, 0, 0, -2, 1, 27, 1, 0, 0]) ws (vs ++ [Value.int x]) := by
    refine ⟨nf_inA hl rfl, sgq_188 ?_⟩
    · show (-1) * v_iv (n_v (vs ++ [Value.int x]) 13) + ((-2) * w_fi ws (n_v (vs ++ [Value.int x]) 0) 27 + (1 * v_iv (n_v (vs ++ [Value.int x]) 12) + 0)) ≤ (-40000)
      simp only [e_0, e_12, e_13]
      exact vc_Mo_same_2_1 (v_iv (n_v vs 12)) (w_fi ws (n_v vs 0) 27) (w_fi w1 (n_v vs 0) 27) (v_iv (Value.int x)) k12 fe_0_27_1 kz_0_27 ex2
  obtain ⟨x0, e0, _, _⟩ := tv_int t8 rfl
  have e1 : v_iv (n_v vs 8) = x0.toInt := by rw [e0]; rfl
  have ho : sy_ofs (vs ++ [Value.int x]) (13, 8, -1000000000000, -1) := by
    refine ⟨x, x0, by rw [List.getElem?_append_right (by rw [hl]; decide), hl]; rfl, ?_, ?_, ?_⟩
    · rw [List.getElem?_append_left (by rw [hl]; decide)]; exact n_v_some (by rw [hl]; decide) e0
    · show x0.toInt + (-1000000000000) ≤ x.toInt; omega
    · show x.toInt ≤ x0.toInt + (-1); omega
  exact ⟨(fun _ h => (by cases h)), [Value.int x], ag_one hx, List.forall_mem_cons.mpr ⟨⟨show (20 : Nat) < 100 from by decide, nf0⟩, List.forall_mem_cons.mpr ⟨⟨show (20 : Nat) < 100 from by decide, nf1⟩, (fun _ h => (by cases h))⟩⟩, List.forall_mem_cons.mpr ⟨ho, (fun _ h => (by cases h))⟩⟩
set_option maxHeartbeats 4000000 in
theorem vc_Mo_same_3_r0 (x3 : Int) (x5 : Int) (x6 : Int) (k3 : 1 ≤ x3 ∧ x3 ≤ 24) (k5 : 1 ≤ x5 ∧ x5 ≤ 24) (k6 : 1 ≤ x6 ∧ x6 ≤ 1) (d0 : x3 + 0 ≤ x5 ∧ x5 ≤ x3 + 4294967296) (f3 : 1 * x5 + ((-1) * x3 + (25 * x6 + 0)) ≤ 24) : 1 ≤ x5 ∧ x5 ≤ 23 := by
  first | assumption | omega | grind
def o_Mo_same_3 : or_T := (275, 10, [(0, (2, 0, 0, [165])), (3, (0, 1, 24, [])), (4, (0, 0, 23, [])), (5, (0, 1, 24, [])), (6, (0, 1, 1, [])), (8, (0, -1, 40100, []))], [(8, [6], [1]), (7, [5, 3], [3]), (20, [0, 4, 6, 8], [30, -40000, -2, 1, 27, 1, 0, 0, 2, 0, 0, -1, 0, 0]), (23, [5, 3, 6], [24, 1, -1, 25])], [(5, (0, 1, 23, []))], [], [], [], [(5, 3, 0, 4294967296), (4, 3, -4294967296, -1)])
theorem oo_Mo_same_3 {kA : Nat → ClassId} : or_ok PRD kA GG o_Mo_same_3 := by
  refine or_mk fun A ta ws vs hD hth hl => ?_
  intro t0 r0 t3 k3 t4 k4 t5 k5 t6 k6 t8 k8 d0 d1 f0 f1 f2 f3
  have hrf0 : 1 ≤ v_iv (n_v vs 5) ∧ v_iv (n_v vs 5) ≤ 23 := vc_Mo_same_3_r0 (v_iv (n_v vs 3)) (v_iv (n_v vs 5)) (v_iv (n_v vs 6)) k3 k5 k6 d0 (shm_191 f3)
  have rf5 : tv_ok ta (0, 1, 23, []) (n_v vs 5) := tv_in t5 (by omega) (by omega)
  refine ⟨List.forall_mem_cons.mpr ⟨rf5, (fun _ h => (by cases h))⟩, [], trivial, ?_, (fun _ h => (by cases h))⟩
  rw [List.append_nil]
  exact (fun _ h => (by cases h))
set_option maxHeartbeats 4000000 in
theorem vc_Mo_same_4_0 (x11 : Int) (steps_0 : Int) (steps_1 : Int) (gx : Int) (k11 : 1 ≤ x11 ∧ x11 ≤ 24) (fe_0_27_1 : steps_0 = steps_1) (kz_0_27 : 0 ≤ steps_0 ∧ steps_0 ≤ 20000) (ex2 : gx = 40000 + ((-2) * steps_0 + (1 * x11 + 0))) : 1 * gx + (2 * steps_0 + ((-1) * x11 + 0)) ≤ 40000 := by
  subst fe_0_27_1
  first | assumption | omega | grind
set_option maxHeartbeats 4000000 in
theorem vc_Mo_same_4_1 (x11 : Int) (steps_0 : Int) (steps_1 : Int) (gx : Int) (k11 : 1 ≤ x11 ∧ x11 ≤ 24) (fe_0_27_1 : steps_0 = steps_1) (kz_0_27 : 0 ≤ steps_0 ∧ steps_0 ≤ 20000) (ex2 : gx = 40000 + ((-2) * steps_0 + (1 * x11 + 0))) : (-1) * gx + ((-2) * steps_0 + (1 * x11 + 0)) ≤ (-40000) := by
  subst fe_0_27_1
  first | assumption | omega | grind
def o_Mo_same_4 : or_T := (130, 12, [(0, (2, 0, 0, [165])), (3, (0, 1, 24, [])), (4, (0, 0, 23, [])), (5, (0, 1, 23, [])), (6, (0, 1, 1, [])), (8, (0, -1, 40100, [])), (9, (2, 0, 0, [179])), (10, (0, 1, 1, [])), (11, (0, 1, 24, []))], [(1, [11, 4, 10], []), (8, [6], [1]), (20, [0, 4, 6, 8], [30, -40000, -2, 1, 27, 1, 0, 0, 2, 0, 0, -1, 0, 0]), (23, [5, 3, 6], [24, 1, -1, 25]), (100, [9, 4, 5], []), (8, [6], [1]), (9, [9, 0], [24]), (7, [5, 3], [3]), (20, [0, 4, 6, 8], [30, -40000, -2, 1, 27, 1, 0, 0, 2, 0, 0, -1, 0, 0]), (23, [5, 3, 6], [24, 1, -1, 25])], [], [(0, -1, 40100, [])], [(20, [12, 0, 11], [30, 40000, 1, 0, 0, 2, 1, 27, -1, 0, 0]), (20, [12, 0, 11], [30, -40000, -1, 0, 0, -2, 1, 27, 1, 0, 0])], [(12, 8, -1000000000000, -1)], [(11, 4, 1, 1), (11, 3, -4294967296, 0), (5, 3, 0, 4294967296), (4, 3, -4294967296, -1)])
theorem oo_Mo_same_4 {kA : Nat → ClassId} : or_ok PRD kA GG o_Mo_same_4 := by
  refine or_mk fun A ta ws vs hD hth hl => ?_
  intro t0 r0 t3 k3 t4 k4 t5 k5 t6 k6 t8 k8 t9 r9 t10 k10 t11 k11 d0 d1 d2 d3 f0 f1 f2 f3 ta1 w1 le1 s1 f5 f6 f7 f8 f9
  replace f0 := shm_12 f0
  replace f1 := shm_142 f1
  replace f2 := shm_190 f2
  replace f3 := shm_191 f3
  have s1 : (∀ b j, w_el ws b j = if b = v_ad (n_v vs 9) ∧ j = (v_iv (n_v vs 4)).toNat then v_iv (n_v vs 5) else w_el w1 b j) ∧ ∀ b k, w_fd ws b k = w_fd w1 b k := s1.2
  replace f5 := shm_142 f5
  replace f6 := shm_189 f6
  replace f7 := shm_2 f7
  replace f8 := shm_190 f8
  replace f9 := shm_191 f9
  have ar_0_24_1 : w_ar w1 (n_v vs 0) 24 = w_ar ws (n_v vs 0) 24 := congrArg v_ad (s1.2 _ _).symm
  have cr_0_24 := fdq_26 hD hth r0
  have ad_9 : v_ad (n_v vs 9) = w_ar ws (n_v vs 0) 24 := (congrArg v_ad f6).trans ar_0_24_1
  have fe_0_27_1 : w_fi ws (n_v vs 0) 27 = w_fi w1 (n_v vs 0) 27 := congrArg v_iv (s1.2 _ _)
  have kz_0_27 := fdq_25 hD hth r0
  have kb_0_27 := fdq_25 hD hth r0
  obtain ⟨x, ex, hx⟩ := iv_ex (ta := ta) (lo := (-1)) (hi := 40100) (z := 40000 + ((-2) * w_fi ws (n_v vs 0) 27 + (1 * v_iv (n_v vs 11) + 0))) (by omega) (by omega) (by omega) (by omega)
  have ex2 : v_iv (Value.int x) = 40000 + ((-2) * w_fi ws (n_v vs 0) 27 + (1 * v_iv (n_v vs 11) + 0)) := ex
  have ex3 : (-1) ≤ v_iv (Value.int x) ∧ v_iv (Value.int x) ≤ 40100 := tv_rng hx
  have e_0 : n_v (vs ++ [Value.int x]) 0 = n_v vs 0 := n_v_old (by rw [hl]; decide)
  have e_11 : n_v (vs ++ [Value.int x]) 11 = n_v vs 11 := n_v_old (by rw [hl]; decide)
  have e_12 : n_v (vs ++ [Value.int x]) 12 = Value.int x := n_v_new hl
  have nf0 : fc_1 PRD (20, [12, 0, 11], [30, 40000, 1, 0, 0, 2, 1, 27, -1, 0, 0]) ws (vs ++ [Value.int x]) := by
    refine ⟨nf_inA hl rfl, sgq_187 ?_⟩
    · show 1 * v_iv (n_v (vs ++ [Value.int x]) 12) + (2 * w_fi ws (n_v (vs ++ [Value.int x]) 0) 27 + ((-1) * v_iv (n_v (vs ++ [Value.int x]) 11) + 0)) ≤ 40000
      simp only [e_0, e_11, e_12]
      exact vc_Mo_same_4_0 (v_iv (n_v vs 11)) (w_fi ws (n_v vs 0) 27) (w_fi w1 (n_v vs 0) 27) (v_iv (Value.int x)) k11 fe_0_27_1 kz_0_27 ex2
  have nf1 : fc_1 PRD (20, [12, 0, 11], [30, -40000, -1, 0, 0, -2, 1, 27, 1, 0, 0]) ws (vs ++ [Value.int x]) := by
    refine ⟨nf_inA hl rfl, sgq_188 ?_⟩
    · show (-1) * v_iv (n_v (vs ++ [Value.int x]) 12) + ((-2) * w_fi ws (n_v (vs ++ [Value.int x]) 0) 27 + (1 * v_iv (n_v (vs ++ [Value.int x]) 11) + 0)) ≤ (-40000)
      simp only [e_0, e_11, e_12]
      exact vc_Mo_same_4_1 (v_iv (n_v vs 11)) (w_fi ws (n_v vs 0) 27) (w_fi w1 (n_v vs 0) 27) (v_iv (Value.int x)) k11 fe_0_27_1 kz_0_27 ex2
  obtain ⟨x0, e0, _, _⟩ := tv_int t8 rfl
  have e1 : v_iv (n_v vs 8) = x0.toInt := by rw [e0]; rfl
  have ho : sy_ofs (vs ++ [Value.int x]) (12, 8, -1000000000000, -1) := by
    refine ⟨x, x0, by rw [List.getElem?_append_right (by rw [hl]; decide), hl]; rfl, ?_, ?_, ?_⟩
    · rw [List.getElem?_append_left (by rw [hl]; decide)]; exact n_v_some (by rw [hl]; decide) e0
    · show x0.toInt + (-1000000000000) ≤ x.toInt; omega
    · show x.toInt ≤ x0.toInt + (-1); omega
  exact ⟨(fun _ h => (by cases h)), [Value.int x], ag_one hx, List.forall_mem_cons.mpr ⟨⟨show (20 : Nat) < 100 from by decide, nf0⟩, List.forall_mem_cons.mpr ⟨⟨show (20 : Nat) < 100 from by decide, nf1⟩, (fun _ h => (by cases h))⟩⟩, List.forall_mem_cons.mpr ⟨ho, (fun _ h => (by cases h))⟩⟩
set_option maxHeartbeats 4000000 in
theorem vc_Mo_same_5_0 (x11 : Int) (steps_0 : Int) (steps_1 : Int) (gx : Int) (k11 : 1 ≤ x11 ∧ x11 ≤ 24) (fe_0_27_1 : steps_0 = steps_1) (kz_0_27 : 0 ≤ steps_0 ∧ steps_0 ≤ 20000) (ex2 : gx = 40000 + ((-2) * steps_0 + (1 * x11 + 0))) : 1 * gx + (2 * steps_0 + ((-1) * x11 + 0)) ≤ 40000 := by
  subst fe_0_27_1
  first | assumption | omega | grind
set_option maxHeartbeats 4000000 in
theorem vc_Mo_same_5_1 (x11 : Int) (steps_0 : Int) (steps_1 : Int) (gx : Int) (k11 : 1 ≤ x11 ∧ x11 ≤ 24) (fe_0_27_1 : steps_0 = steps_1) (kz_0_27 : 0 ≤ steps_0 ∧ steps_0 ≤ 20000) (ex2 : gx = 40000 + ((-2) * steps_0 + (1 * x11 + 0))) : (-1) * gx + ((-2) * steps_0 + (1 * x11 + 0)) ≤ (-40000) := by
  subst fe_0_27_1
  first | assumption | omega | grind
def o_Mo_same_5 : or_T := (130, 12, [(0, (2, 0, 0, [165])), (3, (0, 1, 24, [])), (4, (0, 0, 23, [])), (5, (0, 0, 23, [])), (6, (0, 1, 1, [])), (8, (0, -1, 40100, [])), (9, (2, 0, 0, [179])), (10, (0, 1, 1, [])), (11, (0, 1, 24, []))], [(1, [11, 4, 10], []), (8, [6], [1]), (20, [0, 4, 6, 8], [30, -40000, -2, 1, 27, 1, 0, 0, 2, 0, 0, -1, 0, 0]), (23, [5, 3, 6], [24, 1, -1, 25]), (100, [9, 4, 5], []), (8, [6], [1]), (9, [9, 0], [24]), (8, [6], [1]), (7, [5, 3], [2]), (20, [0, 4, 6, 8], [30, -40000, -2, 1, 27, 1, 0, 0, 2, 0, 0, -1, 0, 0]), (23, [5, 3, 6], [24, 1, -1, 25])], [], [(0, -1, 40100, [])], [(20, [12, 0, 11], [30, 40000, 1, 0, 0, 2, 1, 27, -1, 0, 0]), (20, [12, 0, 11], [30, -40000, -1, 0, 0, -2, 1, 27, 1, 0, 0])], [(12, 8, -1000000000000, -1)], [(11, 4, 1, 1), (11, 3, -4294967296, 0), (5, 3, -4294967296, -1), (4, 3, -4294967296, -1)])
theorem oo_Mo_same_5 {kA : Nat → ClassId} : or_ok PRD kA GG o_Mo_same_5 := by
  refine or_mk fun A ta ws vs hD hth hl => ?_
  intro t0 r0 t3 k3 t4 k4 t5 k5 t6 k6 t8 k8 t9 r9 t10 k10 t11 k11 d0 d1 d2 d3 f0 f1 f2 f3 ta1 w1 le1 s1 f5 f6 f7 f8 f9 f10
  replace f0 := shm_12 f0
  replace f1 := shm_142 f1
  replace f2 := shm_190 f2
  replace f3 := shm_191 f3
  have s1 : (∀ b j, w_el ws b j = if b = v_ad (n_v vs 9) ∧ j = (v_iv (n_v vs 4)).toNat then v_iv (n_v vs 5) else w_el w1 b j) ∧ ∀ b k, w_fd ws b k = w_fd w1 b k := s1.2
  replace f5 := shm_142 f5
  replace f6 := shm_189 f6
  replace f7 := shm_142 f7
  replace f8 := shm_6 f8
  replace f9 := shm_190 f9
  replace f10 := shm_191 f10
  have ar_0_24_1 : w_ar w1 (n_v vs 0) 24 = w_ar ws (n_v vs 0) 24 := congrArg v_ad (s1.2 _ _).symm
  have cr_0_24 := fdq_26 hD hth r0
  have ad_9 : v_ad (n_v vs 9) = w_ar ws (n_v vs 0) 24 := (congrArg v_ad f6).trans ar_0_24_1
  have fe_0_27_1 : w_fi ws (n_v vs 0) 27 = w_fi w1 (n_v vs 0) 27 := congrArg v_iv (s1.2 _ _)
  have kz_0_27 := fdq_25 hD hth r0
  have kb_0_27 := fdq_25 hD hth r0
  obtain ⟨x, ex, hx⟩ := iv_ex (ta := ta) (lo := (-1)) (hi := 40100) (z := 40000 + ((-2) * w_fi ws (n_v vs 0) 27 + (1 * v_iv (n_v vs 11) + 0))) (by omega) (by omega) (by omega) (by omega)
  have ex2 : v_iv (Value.int x) = 40000 + ((-2) * w_fi ws (n_v vs 0) 27 + (1 * v_iv (n_v vs 11) + 0)) := ex
  have ex3 : (-1) ≤ v_iv (Value.int x) ∧ v_iv (Value.int x) ≤ 40100 := tv_rng hx
  have e_0 : n_v (vs ++ [Value.int x]) 0 = n_v vs 0 := n_v_old (by rw [hl]; decide)
  have e_11 : n_v (vs ++ [Value.int x]) 11 = n_v vs 11 := n_v_old (by rw [hl]; decide)
  have e_12 : n_v (vs ++ [Value.int x]) 12 = Value.int x := n_v_new hl
  have nf0 : fc_1 PRD (20, [12, 0, 11], [30, 40000, 1, 0, 0, 2, 1, 27, -1, 0, 0]) ws (vs ++ [Value.int x]) := by
    refine ⟨nf_inA hl rfl, sgq_187 ?_⟩
    · show 1 * v_iv (n_v (vs ++ [Value.int x]) 12) + (2 * w_fi ws (n_v (vs ++ [Value.int x]) 0) 27 + ((-1) * v_iv (n_v (vs ++ [Value.int x]) 11) + 0)) ≤ 40000
      simp only [e_0, e_11, e_12]
      exact vc_Mo_same_5_0 (v_iv (n_v vs 11)) (w_fi ws (n_v vs 0) 27) (w_fi w1 (n_v vs 0) 27) (v_iv (Value.int x)) k11 fe_0_27_1 kz_0_27 ex2
  have nf1 : fc_1 PRD (20, [12, 0, 11], [30, -40000, -1, 0, 0, -2, 1, 27, 1, 0, 0]) ws (vs ++ [Value.int x]) := by
    refine ⟨nf_inA hl rfl, sgq_188 ?_⟩
    · show (-1) * v_iv (n_v (vs ++ [Value.int x]) 12) + ((-2) * w_fi ws (n_v (vs ++ [Value.int x]) 0) 27 + (1 * v_iv (n_v (vs ++ [Value.int x]) 11) + 0)) ≤ (-40000)
      simp only [e_0, e_11, e_12]
      exact vc_Mo_same_5_1 (v_iv (n_v vs 11)) (w_fi ws (n_v vs 0) 27) (w_fi w1 (n_v vs 0) 27) (v_iv (Value.int x)) k11 fe_0_27_1 kz_0_27 ex2
  obtain ⟨x0, e0, _, _⟩ := tv_int t8 rfl
  have e1 : v_iv (n_v vs 8) = x0.toInt := by rw [e0]; rfl
  have ho : sy_ofs (vs ++ [Value.int x]) (12, 8, -1000000000000, -1) := by
    refine ⟨x, x0, by rw [List.getElem?_append_right (by rw [hl]; decide), hl]; rfl, ?_, ?_, ?_⟩
    · rw [List.getElem?_append_left (by rw [hl]; decide)]; exact n_v_some (by rw [hl]; decide) e0
    · show x0.toInt + (-1000000000000) ≤ x.toInt; omega
    · show x.toInt ≤ x0.toInt + (-1); omega
  exact ⟨(fun _ h => (by cases h)), [Value.int x], ag_one hx, List.forall_mem_cons.mpr ⟨⟨show (20 : Nat) < 100 from by decide, nf0⟩, List.forall_mem_cons.mpr ⟨⟨show (20 : Nat) < 100 from by decide, nf1⟩, (fun _ h => (by cases h))⟩⟩, List.forall_mem_cons.mpr ⟨ho, (fun _ h => (by cases h))⟩⟩
set_option maxHeartbeats 4000000 in
theorem vc_Mo_same_6_0 (x4 : Int) (x6 : Int) (x8 : Int) (steps_0 : Int) (gx : Int) (k4 : 0 ≤ x4 ∧ x4 ≤ 23) (k6 : 0 ≤ x6 ∧ x6 ≤ 0) (k8 : (-1) ≤ x8 ∧ x8 ≤ 40100) (f2 : (-2) * steps_0 + (1 * x4 + (2 * x6 + ((-1) * x8 + 0))) ≤ (-40000)) (kz_0_27 : 0 ≤ steps_0 ∧ steps_0 ≤ 20000) (ex2 : gx = 0 + (1 * x8 + 0)) : (-2) * steps_0 + (1 * x4 + (2 * x6 + ((-1) * gx + 0))) ≤ (-40000) := by
  first | assumption | omega | grind
set_option maxHeartbeats 4000000 in
theorem vc_Mo_same_6_1 (x3 : Int) (x5 : Int) (k3 : 1 ≤ x3 ∧ x3 ≤ 24) (k5 : 0 ≤ x5 ∧ x5 ≤ 23) (d0 : x3 + (-4294967296) ≤ x5 ∧ x5 ≤ x3 + (-1)) : 1 * x5 + ((-1) * x3 + 0) ≤ (-1) := by
  first | assumption | omega | grind
def o_Mo_same_6 : or_T := (172, 11, [(0, (2, 0, 0, [165])), (3, (0, 1, 24, [])), (4, (0, 0, 23, [])), (5, (0, 0, 23, [])), (6, (0, 0, 0, [])), (8, (0, -1, 40100, []))], [(8, [6], [0]), (7, [5, 3], [2]), (20, [0, 4, 6, 8], [30, -40000, -2, 1, 27, 1, 0, 0, 2, 0, 0, -1, 0, 0]), (23, [5, 3, 6], [24, 1, -1, 25])], [], [(0, -1, 40100, [])], [(20, [0, 4, 6, 11], [30, -40000, -2, 1, 27, 1, 0, 0, 2, 0, 0, -1, 0, 0]), (23, [5, 3], [-1, 1, -1])], [(11, 8, 0, 0)], [(5, 3, -4294967296, -1), (4, 3, -4294967296, -1)])
theorem oo_Mo_same_6 {kA : Nat → ClassId} : or_ok PRD kA GG o_Mo_same_6 := by
  refine or_mk fun A ta ws vs hD hth hl => ?_
  intro t0 r0 t3 k3 t4 k4 t5 k5 t6 k6 t8 k8 d0 d1 f0 f1 f2 f3
  replace f0 := shm_192 f0
  replace f1 := shm_6 f1
  replace f2 := shm_190 f2
  replace f3 := shm_191 f3
  have kz_0_27 := fdq_25 hD hth r0
  obtain ⟨x, ex, hx⟩ := iv_ex (ta := ta) (lo := (-1)) (hi := 40100) (z := 0 + (1 * v_iv (n_v vs 8) + 0)) (by omega) (by omega) (by omega) (by omega)
  have ex2 : v_iv (Value.int x) = 0 + (1 * v_iv (n_v vs 8) + 0) := ex
  have ex3 : (-1) ≤ v_iv (Value.int x) ∧ v_iv (Value.int x) ≤ 40100 := tv_rng hx
  have e_0 : n_v (vs ++ [Value.int x]) 0 = n_v vs 0 := n_v_old (by rw [hl]; decide)
  have e_3 : n_v (vs ++ [Value.int x]) 3 = n_v vs 3 := n_v_old (by rw [hl]; decide)
  have e_4 : n_v (vs ++ [Value.int x]) 4 = n_v vs 4 := n_v_old (by rw [hl]; decide)
  have e_5 : n_v (vs ++ [Value.int x]) 5 = n_v vs 5 := n_v_old (by rw [hl]; decide)
  have e_6 : n_v (vs ++ [Value.int x]) 6 = n_v vs 6 := n_v_old (by rw [hl]; decide)
  have e_11 : n_v (vs ++ [Value.int x]) 11 = Value.int x := n_v_new hl
  have nf0 : fc_1 PRD (20, [0, 4, 6, 11], [30, -40000, -2, 1, 27, 1, 0, 0, 2, 0, 0, -1, 0, 0]) ws (vs ++ [Value.int x]) := by
    refine ⟨nf_inA hl rfl, sgq_190 ?_⟩
    · show (-2) * w_fi ws (n_v (vs ++ [Value.int x]) 0) 27 + (1 * v_iv (n_v (vs ++ [Value.int x]) 4) + (2 * v_iv (n_v (vs ++ [Value.int x]) 6) + ((-1) * v_iv (n_v (vs ++ [Value.int x]) 11) + 0))) ≤ (-40000)
      simp only [e_0, e_4, e_6, e_11]
      exact vc_Mo_same_6_0 (v_iv (n_v vs 4)) (v_iv (n_v vs 6)) (v_iv (n_v vs 8)) (w_fi ws (n_v vs 0) 27) (v_iv (Value.int x)) k4 k6 k8 f2 kz_0_27 ex2
  have nf1 : fc_1 PRD (23, [5, 3], [-1, 1, -1]) ws (vs ++ [Value.int x]) := by
    refine ⟨nf_inA hl rfl, sgq_193 ?_⟩
    · show 1 * v_iv (n_v (vs ++ [Value.int x]) 5) + ((-1) * v_iv (n_v (vs ++ [Value.int x]) 3) + 0) ≤ (-1)
      simp only [e_3, e_5]
      exact vc_Mo_same_6_1 (v_iv (n_v vs 3)) (v_iv (n_v vs 5)) k3 k5 d0
  obtain ⟨x0, e0, _, _⟩ := tv_int t8 rfl
  have e1 : v_iv (n_v vs 8) = x0.toInt := by rw [e0]; rfl
  have ho : sy_ofs (vs ++ [Value.int x]) (11, 8, 0, 0) := by
    refine ⟨x, x0, by rw [List.getElem?_append_right (by rw [hl]; decide), hl]; rfl, ?_, ?_, ?_⟩
    · rw [List.getElem?_append_left (by rw [hl]; decide)]; exact n_v_some (by rw [hl]; decide) e0
    · show x0.toInt + 0 ≤ x.toInt; omega
    · show x.toInt ≤ x0.toInt + 0; omega
  exact ⟨(fun _ h => (by cases h)), [Value.int x], ag_one hx, List.forall_mem_cons.mpr ⟨⟨show (20 : Nat) < 100 from by decide, nf0⟩, List.forall_mem_cons.mpr ⟨⟨show (23 : Nat) < 100 from by decide, nf1⟩, (fun _ h => (by cases h))⟩⟩, List.forall_mem_cons.mpr ⟨ho, (fun _ h => (by cases h))⟩⟩
set_option maxHeartbeats 4000000 in
theorem vc_Mo_same_7_0 (x4 : Int) (x6 : Int) (x8 : Int) (x9 : Int) (steps_0 : Int) (gx : Int) (k4 : 1 ≤ x4 ∧ x4 ≤ 23) (k6 : 0 ≤ x6 ∧ x6 ≤ 0) (k8 : 1 ≤ x8 ∧ x8 ≤ 23) (k9 : (-1) ≤ x9 ∧ x9 ≤ 40100) (d2 : x4 + 0 ≤ x8 ∧ x8 ≤ x4 + 4294967296) (d6 : x4 + (-4294967296) ≤ x8 ∧ x8 ≤ x4 + 0) (f3 : (-2) * steps_0 + (1 * x4 + (2 * x6 + ((-1) * x9 + 0))) ≤ (-40000)) (kz_0_27 : 0 ≤ steps_0 ∧ steps_0 ≤ 20000) (ex2 : gx = 0 + (1 * x9 + 0)) : (-2) * steps_0 + (1 * x4 + (2 * x6 + ((-1) * gx + 0))) ≤ (-40000) := by
  first | assumption | omega | grind
set_option maxHeartbeats 4000000 in
theorem vc_Mo_same_7_1 (x3 : Int) (x5 : Int) (x6 : Int) (x10 : Int) (k3 : 2 ≤ x3 ∧ x3 ≤ 24) (k5 : 0 ≤ x5 ∧ x5 ≤ 23) (k6 : 0 ≤ x6 ∧ x6 ≤ 0) (k10 : 1 ≤ x10 ∧ x10 ≤ 24) (d0 : x5 + 1 ≤ x10 ∧ x10 ≤ x5 + 1) (d1 : x3 + (-4294967296) ≤ x10 ∧ x10 ≤ x3 + 0) (d4 : x3 + (-4294967296) ≤ x5 ∧ x5 ≤ x3 + (-1)) : 1 * x10 + ((-1) * x3 + (25 * x6 + 0)) ≤ 24 := by
  first | assumption | omega | grind
def o_Mo_same_7 : or_T := (155, 11, [(0, (2, 0, 0, [165])), (3, (0, 2, 24, [])), (4, (0, 1, 23, [])), (5, (0, 0, 23, [])), (6, (0, 0, 0, [])), (8, (0, 1, 23, [])), (9, (0, -1, 40100, [])), (10, (0, 1, 24, []))], [(6, [10, 5], [1]), (8, [6], [0]), (7, [8, 4], [3]), (20, [0, 4, 6, 9], [30, -40000, -2, 1, 27, 1, 0, 0, 2, 0, 0, -1, 0, 0]), (23, [5, 3], [-1, 1, -1])], [], [(0, -1, 40100, [])], [(20, [0, 4, 6, 11], [30, -40000, -2, 1, 27, 1, 0, 0, 2, 0, 0, -1, 0, 0]), (23, [10, 3, 6], [24, 1, -1, 25])], [(11, 9, 0, 0)], [(10, 5, 1, 1), (10, 3, -4294967296, 0), (8, 4, 0, 4294967296), (4, 3, -4294967296, -1), (5, 3, -4294967296, -1), (8, 3, -4294967296, -1), (8, 4, -4294967296, 0)])
theorem oo_Mo_same_7 {kA : Nat → ClassId} : or_ok PRD kA GG o_Mo_same_7 := by
  refine or_mk fun A ta ws vs hD hth hl => ?_
  intro t0 r0 t3 k3 t4 k4 t5 k5 t6 k6 t8 k8 t9 k9 t10 k10 d0 d1 d2 d3 d4 d5 d6 f0 f1 f2 f3 f4
  replace f0 := shm_4 f0
  replace f1 := shm_192 f1
  replace f2 := shm_2 f2
  replace f3 := shm_190 f3
  replace f4 := shm_193 f4
  have kz_0_27 := fdq_25 hD hth r0
  obtain ⟨x, ex, hx⟩ := iv_ex (ta := ta) (lo := (-1)) (hi := 40100) (z := 0 + (1 * v_iv (n_v vs 9) + 0)) (by omega) (by omega) (by omega) (by omega)
  have ex2 : v_iv (Value.int x) = 0 + (1 * v_iv (n_v vs 9) + 0) := ex
  have ex3 : (-1) ≤ v_iv (Value.int x) ∧ v_iv (Value.int x) ≤ 40100 := tv_rng hx
  have e_0 : n_v (vs ++ [Value.int x]) 0 = n_v vs 0 := n_v_old (by rw [hl]; decide)
  have e_3 : n_v (vs ++ [Value.int x]) 3 = n_v vs 3 := n_v_old (by rw [hl]; decide)
  have e_4 : n_v (vs ++ [Value.int x]) 4 = n_v vs 4 := n_v_old (by rw [hl]; decide)
  have e_6 : n_v (vs ++ [Value.int x]) 6 = n_v vs 6 := n_v_old (by rw [hl]; decide)
  have e_10 : n_v (vs ++ [Value.int x]) 10 = n_v vs 10 := n_v_old (by rw [hl]; decide)
  have e_11 : n_v (vs ++ [Value.int x]) 11 = Value.int x := n_v_new hl
  have nf0 : fc_1 PRD (20, [0, 4, 6, 11], [30, -40000, -2, 1, 27, 1, 0, 0, 2, 0, 0, -1, 0, 0]) ws (vs ++ [Value.int x]) := by
    refine ⟨nf_inA hl rfl, sgq_190 ?_⟩
    · show (-2) * w_fi ws (n_v (vs ++ [Value.int x]) 0) 27 + (1 * v_iv (n_v (vs ++ [Value.int x]) 4) + (2 * v_iv (n_v (vs ++ [Value.int x]) 6) + ((-1) * v_iv (n_v (vs ++ [Value.int x]) 11) + 0))) ≤ (-40000)
      simp only [e_0, e_4, e_6, e_11]
      exact vc_Mo_same_7_0 (v_iv (n_v vs 4)) (v_iv (n_v vs 6)) (v_iv (n_v vs 8)) (v_iv (n_v vs 9)) (w_fi ws (n_v vs 0) 27) (v_iv (Value.int x)) k4 k6 k8 k9 d2 d6 f3 kz_0_27 ex2
  have nf1 : fc_1 PRD (23, [10, 3, 6], [24, 1, -1, 25]) ws (vs ++ [Value.int x]) := by
    refine ⟨nf_inA hl rfl, sgq_191 ?_⟩
    · show 1 * v_iv (n_v (vs ++ [Value.int x]) 10) + ((-1) * v_iv (n_v (vs ++ [Value.int x]) 3) + (25 * v_iv (n_v (vs ++ [Value.int x]) 6) + 0)) ≤ 24
      simp only [e_3, e_6, e_10]
      exact vc_Mo_same_7_1 (v_iv (n_v vs 3)) (v_iv (n_v vs 5)) (v_iv (n_v vs 6)) (v_iv (n_v vs 10)) k3 k5 k6 k10 d0 d1 d4
  obtain ⟨x0, e0, _, _⟩ := tv_int t9 rfl
  have e1 : v_iv (n_v vs 9) = x0.toInt := by rw [e0]; rfl
  have ho : sy_ofs (vs ++ [Value.int x]) (11, 9, 0, 0) := by
    refine ⟨x, x0, by rw [List.getElem?_append_right (by rw [hl]; decide), hl]; rfl, ?_, ?_, ?_⟩
    · rw [List.getElem?_append_left (by rw [hl]; decide)]; exact n_v_some (by rw [hl]; decide) e0
    · show x0.toInt + 0 ≤ x.toInt; omega
    · show x.toInt ≤ x0.toInt + 0; omega
  exact ⟨(fun _ h => (by cases h)), [Value.int x], ag_one hx, List.forall_mem_cons.mpr ⟨⟨show (20 : Nat) < 100 from by decide, nf0⟩, List.forall_mem_cons.mpr ⟨⟨show (23 : Nat) < 100 from by decide, nf1⟩, (fun _ h => (by cases h))⟩⟩, List.forall_mem_cons.mpr ⟨ho, (fun _ h => (by cases h))⟩⟩
set_option maxHeartbeats 4000000 in
theorem vc_Mo_same_8_0 (x4 : Int) (x6 : Int) (x8 : Int) (x9 : Int) (x10 : Int) (x13 : Int) (x14 : Int) (steps_1 : Int) (steps_0 : Int) (gx : Int) (k4 : 0 ≤ x4 ∧ x4 ≤ 23) (k6 : 0 ≤ x6 ∧ x6 ≤ 0) (k8 : 0 ≤ x8 ∧ x8 ≤ 23) (k9 : (-1) ≤ x9 ∧ x9 ≤ 40100) (k10 : 0 ≤ x10 ∧ x10 ≤ 19999) (k13 : 1 ≤ x13 ∧ x13 ≤ 20000) (k14 : 1 ≤ x14 ∧ x14 ≤ 1) (d0 : x10 + 1 ≤ x13 ∧ x13 ≤ x10 + 1) (d1 : x4 + 0 ≤ x8 ∧ x8 ≤ x4 + 4294967296) (d5 : x4 + (-4294967296) ≤ x8 ∧ x8 ≤ x4 + 0) (g4 : x10 = steps_1) (f7 : (-2) * steps_1 + (1 * x4 + (2 * x6 + ((-1) * x9 + 0))) ≤ (-40000)) (fe_0_27_1 : steps_0 = x13) (kz_0_27 : 0 ≤ steps_0 ∧ steps_0 ≤ 20000) (ex2 : gx = 0 + (1 * x9 + 0)) : (-2) * steps_0 + (1 * x4 + (2 * x14 + ((-1) * gx + 0))) ≤ (-40000) := by
  first | assumption | omega | grind
set_option maxHeartbeats 4000000 in
theorem vc_Mo_same_8_1 (x3 : Int) (x5 : Int) (x14 : Int) (k3 : 1 ≤ x3 ∧ x3 ≤ 24) (k5 : 0 ≤ x5 ∧ x5 ≤ 23) (k14 : 1 ≤ x14 ∧ x14 ≤ 1) (d3 : x3 + (-4294967296) ≤ x5 ∧ x5 ≤ x3 + (-1)) : 1 * x5 + ((-1) * x3 + (25 * x14 + 0)) ≤ 24 := by
  first | assumption | omega | grind
def o_Mo_same_8 : or_T := (155, 15, [(0, (2, 0, 0, [165])), (3, (0, 1, 24, [])), (4, (0, 0, 23, [])), (5, (0, 0, 23, [])), (6, (0, 0, 0, [])), (8, (0, 0, 23, [])), (9, (0, -1, 40100, [])), (10, (0, 0, 19999, [])), (11, (0, 20000, 20000, [])), (12, (0, 1, 1, [])), (13, (0, 1, 20000, [])), (14, (0, 1, 1, []))], [(8, [14], [1]), (23, [5, 3], [-1, 1, -1]), (101, [0, 13], [27]), (1, [13, 10, 12], []), (9, [10, 0], [27]), (7, [10, 11], [1]), (7, [8, 4], [3]), (20, [0, 4, 6, 9], [30, -40000, -2, 1, 27, 1, 0, 0, 2, 0, 0, -1, 0, 0]), (23, [5, 3], [-1, 1, -1])], [], [(0, -1, 40100, [])], [(20, [0, 4, 14, 15], [30, -40000, -2, 1, 27, 1, 0, 0, 2, 0, 0, -1, 0, 0]), (23, [5, 3, 14], [24, 1, -1, 25])], [(15, 9, 0, 0)], [(13, 10, 1, 1), (8, 4, 0, 4294967296), (4, 3, -4294967296, -1), (5, 3, -4294967296, -1), (8, 3, -4294967296, -1), (8, 4, -4294967296, 0)])
theorem oo_Mo_same_8 {kA : Nat → ClassId} : or_ok PRD kA GG o_Mo_same_8 := by
  refine or_mk fun A ta ws vs hD hth hl => ?_
  intro t0 r0 t3 k3 t4 k4 t5 k5 t6 k6 t8 k8 t9 k9 t10 k10 t11 k11 t12 k12 t13 k13 t14 k14 d0 d1 d2 d3 d4 d5 f0 f1 ta1 w1 le1 s1 f3 f4 f5 f6 f7 f8
  replace f0 := shm_142 f0
  replace f1 := shm_193 f1
  have s1 : (∀ b j, w_el ws b j = w_el w1 b j) ∧ ∀ b j, w_fd ws b j = if b = v_ad (n_v vs 0) ∧ j = 27 then n_v vs 13 else w_fd w1 b j := s1.2
  replace f3 := shm_12 f3
  replace f4 := shm_194 f4
  replace f5 := shm_40 f5
  replace f6 := shm_2 f6
  replace f7 := shm_190 f7
  replace f8 := shm_193 f8
  have g4 : v_iv (n_v vs 10) = w_fi w1 (n_v vs 0) 27 := congrArg v_iv f4
  have fe_0_27_1 : w_fi ws (n_v vs 0) 27 = v_iv (n_v vs 13) := by show v_iv (w_fd _ _ _) = _; rw [s1.2, if_pos ⟨rfl, rfl⟩]
  have kz_0_27 := fdq_25 hD hth r0
  obtain ⟨x, ex, hx⟩ := iv_ex (ta := ta) (lo := (-1)) (hi := 40100) (z := 0 + (1 * v_iv (n_v vs 9) + 0)) (by omega) (by omega) (by omega) (by omega)
  have ex2 : v_iv (Value.int x) = 0 + (1 * v_iv (n_v vs 9) + 0) := ex
  have ex3 : (-1) ≤ v_iv (Value.int x) ∧ v_iv (Value.int x) ≤ 40100 := tv_rng hx
  have e_0 : n_v (vs ++ [Value.int x]) 0 = n_v vs 0 := n_v_old (by rw [hl]; decide)
  have e_3 : n_v (vs ++ [Value.int x]) 3 = n_v vs 3 := n_v_old (by rw [hl]; decide)
  have e_4 : n_v (vs ++ [Value.int x]) 4 = n_v vs 4 := n_v_old (by rw [hl]; decide)
  have e_5 : n_v (vs ++ [Value.int x]) 5 = n_v vs 5 := n_v_old (by rw [hl]; decide)
  have e_14 : n_v (vs ++ [Value.int x]) 14 = n_v vs 14 := n_v_old (by rw [hl]; decide)
  have e_15 : n_v (vs ++ [Value.int x]) 15 = Value.int x := n_v_new hl
  have nf0 : fc_1 PRD (20, [0, 4, 14, 15], [30, -40000, -2, 1, 27, 1, 0, 0, 2, 0, 0, -1, 0, 0]) ws (vs ++ [Value.int x]) := by
    refine ⟨nf_inA hl rfl, sgq_190 ?_⟩
    · show (-2) * w_fi ws (n_v (vs ++ [Value.int x]) 0) 27 + (1 * v_iv (n_v (vs ++ [Value.int x]) 4) + (2 * v_iv (n_v (vs ++ [Value.int x]) 14) + ((-1) * v_iv (n_v (vs ++ [Value.int x]) 15) + 0))) ≤ (-40000)
      simp only [e_0, e_4, e_14, e_15]
      exact vc_Mo_same_8_0 (v_iv (n_v vs 4)) (v_iv (n_v vs 6)) (v_iv (n_v vs 8)) (v_iv (n_v vs 9)) (v_iv (n_v vs 10)) (v_iv (n_v vs 13)) (v_iv (n_v vs 14)) (w_fi w1 (n_v vs 0) 27) (w_fi ws (n_v vs 0) 27) (v_iv (Value.int x)) k4 k6 k8 k9 k10 k13 k14 d0 d1 d5 g4 f7 fe_0_27_1 kz_0_27 ex2
  have nf1 : fc_1 PRD (23, [5, 3, 14], [24, 1, -1, 25]) ws (vs ++ [Value.int x]) := by
    refine ⟨nf_inA hl rfl, sgq_191 ?_⟩
    · show 1 * v_iv (n_v (vs ++ [Value.int x]) 5) + ((-1) * v_iv (n_v (vs ++ [Value.int x]) 3) + (25 * v_iv (n_v (vs ++ [Value.int x]) 14) + 0)) ≤ 24
      simp only [e_3, e_5, e_14]
      exact vc_Mo_same_8_1 (v_iv (n_v vs 3)) (v_iv (n_v vs 5)) (v_iv (n_v vs 14)) k3 k5 k14 d3
  obtain ⟨x0, e0, _, _⟩ := tv_int t9 rfl
  have e1 : v_iv (n_v vs 9) = x0.toInt := by rw [e0]; rfl
  have ho : sy_ofs (vs ++ [Value.int x]) (15, 9, 0, 0) := by
    refine ⟨x, x0, by rw [List.getElem?_append_right (by rw [hl]; decide), hl]; rfl, ?_, ?_, ?_⟩
    · rw [List.getElem?_append_left (by rw [hl]; decide)]; exact n_v_some (by rw [hl]; decide) e0
    · show x0.toInt + 0 ≤ x.toInt; omega
    · show x.toInt ≤ x0.toInt + 0; omega
  exact ⟨(fun _ h => (by cases h)), [Value.int x], ag_one hx, List.forall_mem_cons.mpr ⟨⟨show (20 : Nat) < 100 from by decide, nf0⟩, List.forall_mem_cons.mpr ⟨⟨show (23 : Nat) < 100 from by decide, nf1⟩, (fun _ h => (by cases h))⟩⟩, List.forall_mem_cons.mpr ⟨ho, (fun _ h => (by cases h))⟩⟩
set_option maxHeartbeats 4000000 in
theorem vc_Mo_same_9_0 (x4 : Int) (x6 : Int) (x8 : Int) (x9 : Int) (x10 : Int) (x13 : Int) (x14 : Int) (steps_1 : Int) (steps_0 : Int) (gx : Int) (k4 : 0 ≤ x4 ∧ x4 ≤ 23) (k6 : 0 ≤ x6 ∧ x6 ≤ 0) (k8 : 0 ≤ x8 ∧ x8 ≤ 23) (k9 : (-1) ≤ x9 ∧ x9 ≤ 40100) (k10 : 0 ≤ x10 ∧ x10 ≤ 19999) (k13 : 1 ≤ x13 ∧ x13 ≤ 20000) (k14 : 0 ≤ x14 ∧ x14 ≤ 0) (d2 : x10 + 1 ≤ x13 ∧ x13 ≤ x10 + 1) (d3 : x4 + 0 ≤ x8 ∧ x8 ≤ x4 + 4294967296) (d7 : x4 + (-4294967296) ≤ x8 ∧ x8 ≤ x4 + 0) (g5 : x10 = steps_1) (f8 : (-2) * steps_1 + (1 * x4 + (2 * x6 + ((-1) * x9 + 0))) ≤ (-40000)) (fe_0_27_1 : steps_0 = x13) (kz_0_27 : 0 ≤ steps_0 ∧ steps_0 ≤ 20000) (ex2 : gx = 0 + (1 * x9 + 0)) : (-2) * steps_0 + (1 * x4 + (2 * x14 + ((-1) * gx + 0))) ≤ (-40000) := by
  first | assumption | omega | grind
set_option maxHeartbeats 4000000 in
theorem vc_Mo_same_9_1 (x3 : Int) (x5 : Int) (x14 : Int) (x15 : Int) (k3 : 1 ≤ x3 ∧ x3 ≤ 24) (k5 : 0 ≤ x5 ∧ x5 ≤ 23) (k14 : 0 ≤ x14 ∧ x14 ≤ 0) (k15 : 1 ≤ x15 ∧ x15 ≤ 24) (d0 : x5 + 1 ≤ x15 ∧ x15 ≤ x5 + 1) (d1 : x3 + (-4294967296) ≤ x15 ∧ x15 ≤ x3 + 0) (d5 : x3 + (-4294967296) ≤ x5 ∧ x5 ≤ x3 + (-1)) : 1 * x15 + ((-1) * x3 + (25 * x14 + 0)) ≤ 24 := by
  first | assumption | omega | grind
def o_Mo_same_9 : or_T := (155, 16, [(0, (2, 0, 0, [165])), (3, (0, 1, 24, [])), (4, (0, 0, 23, [])), (5, (0, 0, 23, [])), (6, (0, 0, 0, [])), (8, (0, 0, 23, [])), (9, (0, -1, 40100, [])), (10, (0, 0, 19999, [])), (11, (0, 20000, 20000, [])), (12, (0, 1, 1, [])), (13, (0, 1, 20000, [])), (14, (0, 0, 0, [])), (15, (0, 1, 24, []))], [(6, [15, 5], [1]), (8, [14], [0]), (23, [5, 3], [-1, 1, -1]), (101, [0, 13], [27]), (1, [13, 10, 12], []), (9, [10, 0], [27]), (7, [10, 11], [1]), (7, [8, 4], [3]), (20, [0, 4, 6, 9], [30, -40000, -2, 1, 27, 1, 0, 0, 2, 0, 0, -1, 0, 0]), (23, [5, 3], [-1, 1, -1])], [], [(0, -1, 40100, [])], [(20, [0, 4, 14, 16], [30, -40000, -2, 1, 27, 1, 0, 0, 2, 0, 0, -1, 0, 0]), (23, [15, 3, 14], [24, 1, -1, 25])], [(16, 9, 0, 0)], [(15, 5, 1, 1), (15, 3, -4294967296, 0), (13, 10, 1, 1), (8, 4, 0, 4294967296), (4, 3, -4294967296, -1), (5, 3, -4294967296, -1), (8, 3, -4294967296, -1), (8, 4, -4294967296, 0)])
theorem oo_Mo_same_9 {kA : Nat → ClassId} : or_ok PRD kA GG o_Mo_same_9 := by
  refine or_mk fun A ta ws vs hD hth hl => ?_
  intro t0 r0 t3 k3 t4 k4 t5 k5 t6 k6 t8 k8 t9 k9 t10 k10 t11 k11 t12 k12 t13 k13 t14 k14 t15 k15 d0 d1 d2 d3 d4 d5 d6 d7 f0 f1 f2 ta1 w1 le1 s1 f4 f5 f6 f7 f8 f9
  replace f0 := shm_4 f0
  replace f1 := shm_192 f1
  replace f2 := shm_193 f2
  have s1 : (∀ b j, w_el ws b j = w_el w1 b j) ∧ ∀ b j, w_fd ws b j = if b = v_ad (n_v vs 0) ∧ j = 27 then n_v vs 13 else w_fd w1 b j := s1.2
  replace f4 := shm_12 f4
  replace f5 := shm_194 f5
  replace f6 := shm_40 f6
  replace f7 := shm_2 f7
  replace f8 := shm_190 f8
  replace f9 := shm_193 f9
  have g5 : v_iv (n_v vs 10) = w_fi w1 (n_v vs 0) 27 := congrArg v_iv f5
  have fe_0_27_1 : w_fi ws (n_v vs 0) 27 = v_iv (n_v vs 13) := by show v_iv (w_fd _ _ _) = _; rw [s1.2, if_pos ⟨rfl, rfl⟩]
  have kz_0_27 := fdq_25 hD hth r0
  obtain ⟨x, ex, hx⟩ := iv_ex (ta := ta) (lo := (-1)) (hi := 40100) (z := 0 + (1 * v_iv (n_v vs 9) + 0)) (by omega) (by omega) (by omega) (by omega)
  have ex2 : v_iv (Value.int x) = 0 + (1 * v_iv (n_v vs 9) + 0) := ex
  have ex3 : (-1) ≤ v_iv (Value.int x) ∧ v_iv (Value.int x) ≤ 40100 := tv_rng hx
  have e_0 : n_v (vs ++ [Value.int x]) 0 = n_v vs 0 := n_v_old (by rw [hl]; decide)
  have e_3 : n_v (vs ++ [Value.int x]) 3 = n_v vs 3 := n_v_old (by rw [hl]; decide)
  have e_4 : n_v (vs ++ [Value.int x]) 4 = n_v vs 4 := n_v_old (by rw [hl]; decide)
  have e_14 : n_v (vs ++ [Value.int x]) 14 = n_v vs 14 := n_v_old (by rw [hl]; decide)
  have e_15 : n_v (vs ++ [Value.int x]) 15 = n_v vs 15 := n_v_old (by rw [hl]; decide)
  have e_16 : n_v (vs ++ [Value.int x]) 16 = Value.int x := n_v_new hl
  have nf0 : fc_1 PRD (20, [0, 4, 14, 16], [30, -40000, -2, 1, 27, 1, 0, 0, 2, 0, 0, -1, 0, 0]) ws (vs ++ [Value.int x]) := by
    refine ⟨nf_inA hl rfl, sgq_190 ?_⟩
    · show (-2) * w_fi ws (n_v (vs ++ [Value.int x]) 0) 27 + (1 * v_iv (n_v (vs ++ [Value.int x]) 4) + (2 * v_iv (n_v (vs ++ [Value.int x]) 14) + ((-1) * v_iv (n_v (vs ++ [Value.int x]) 16) + 0))) ≤ (-40000)
      simp only [e_0, e_4, e_14, e_16]
      exact vc_Mo_same_9_0 (v_iv (n_v vs 4)) (v_iv (n_v vs 6)) (v_iv (n_v vs 8)) (v_iv (n_v vs 9)) (v_iv (n_v vs 10)) (v_iv (n_v vs 13)) (v_iv (n_v vs 14)) (w_fi w1 (n_v vs 0) 27) (w_fi ws (n_v vs 0) 27) (v_iv (Value.int x)) k4 k6 k8 k9 k10 k13 k14 d2 d3 d7 g5 f8 fe_0_27_1 kz_0_27 ex2
  have nf1 : fc_1 PRD (23, [15, 3, 14], [24, 1, -1, 25]) ws (vs ++ [Value.int x]) := by
    refine ⟨nf_inA hl rfl, sgq_191 ?_⟩
    · show 1 * v_iv (n_v (vs ++ [Value.int x]) 15) + ((-1) * v_iv (n_v (vs ++ [Value.int x]) 3) + (25 * v_iv (n_v (vs ++ [Value.int x]) 14) + 0)) ≤ 24
      simp only [e_3, e_14, e_15]
      exact vc_Mo_same_9_1 (v_iv (n_v vs 3)) (v_iv (n_v vs 5)) (v_iv (n_v vs 14)) (v_iv (n_v vs 15)) k3 k5 k14 k15 d0 d1 d5
  obtain ⟨x0, e0, _, _⟩ := tv_int t9 rfl
  have e1 : v_iv (n_v vs 9) = x0.toInt := by rw [e0]; rfl
  have ho : sy_ofs (vs ++ [Value.int x]) (16, 9, 0, 0) := by
    refine ⟨x, x0, by rw [List.getElem?_append_right (by rw [hl]; decide), hl]; rfl, ?_, ?_, ?_⟩
    · rw [List.getElem?_append_left (by rw [hl]; decide)]; exact n_v_some (by rw [hl]; decide) e0
    · show x0.toInt + 0 ≤ x.toInt; omega
    · show x.toInt ≤ x0.toInt + 0; omega
  exact ⟨(fun _ h => (by cases h)), [Value.int x], ag_one hx, List.forall_mem_cons.mpr ⟨⟨show (20 : Nat) < 100 from by decide, nf0⟩, List.forall_mem_cons.mpr ⟨⟨show (23 : Nat) < 100 from by decide, nf1⟩, (fun _ h => (by cases h))⟩⟩, List.forall_mem_cons.mpr ⟨ho, (fun _ h => (by cases h))⟩⟩
def n_Mo_same_an : List an_T := [(110, [(0, (2, 0, 0, [165])), (1, (0, 0, 3, [])), (2, (0, 0, 3, [])), (3, (0, 0, 24, [])), (4, (0, 0, 0, [])), (5, (0, 0, 24, []))], [], (0, 0), [(0, 0, 99890), (1, 5, 24), (0, 0, 100000), (0, 0, 0), (0, 0, 0), (0, 0, 0), (0, 0, 0), (0, 0, 0)], [(5, 3, (Int.negSucc 999999999999), 0)], [], [], 0, [], []), (130, [(0, (2, 0, 0, [165])), (1, (0, 0, 3, [])), (2, (0, 0, 3, [])), (3, (0, 0, 24, [])), (4, (0, (Int.negSucc 0), 24, [])), (5, (0, 0, 24, []))], [], (0, 0), [(0, 0, 99870), (2, 7, (Int.negSucc 0)), (0, 0, 100000), (0, 0, 0), (0, 0, 0), (0, 0, 0), (0, 0, 0), (0, 0, 0)], [(4, 3, (Int.negSucc 999999999999), 0), (5, 3, (Int.negSucc 999999999999), 23)], [((0, 27), (0, 0, 20000, []))], [], 0, [(0, (Int.negSucc 0), 40100, [])], [(20, [7, 0, 4], [30, 40000, 1, 0, 0, 2, 1, 27, (Int.negSucc 0), 0, 0]), (20, [7, 0, 4], [30, (Int.negSucc 39999), (Int.negSucc 0), 0, 0, (Int.negSucc 1), 1, 27, 1, 0, 0])]), (155, [(0, (2, 0, 0, [165])), (1, (0, 0, 3, [])), (2, (0, 0, 3, [])), (3, (0, 1, 24, [])), (4, (0, 0, 23, [])), (5, (0, 0, 24, [])), (6, (0, 0, 1, []))], [], (0, 0), [(0, 0, 99870), (2, 8, (Int.negSucc 0)), (0, 0, 99845), (1, 5, 24), (1, 6, 1), (0, 0, 100000), (0, 0, 0), (0, 0, 0)], [(4, 3, (Int.negSucc 999999999999), (Int.negSucc 0)), (6, 7, (Int.negSucc 999999999999), 0)], [((0, 27), (0, 0, 20000, []))], [], 0, [(0, (Int.negSucc 0), 40100, [])], [(20, [0, 4, 6, 8], [30, (Int.negSucc 39999), (Int.negSucc 1), 1, 27, 1, 0, 0, 2, 0, 0, (Int.negSucc 0), 0, 0]), (23, [5, 3, 6], [24, 1, (Int.negSucc 0), 25])]), (172, [(0, (2, 0, 0, [165])), (1, (0, 0, 3, [])), (2, (0, 0, 3, [])), (3, (0, 1, 24, [])), (4, (0, 0, 23, [])), (5, (0, 0, 23, [])), (6, (0, 0, 0, [])), (7, (0, 0, 1, [])), (8, (0, 0, 23, []))], [], (0, 0), [(0, 0, 99870), (2, 9, (Int.negSucc 0)), (0, 0, 99845), (1, 5, 24), (1, 6, 1), (0, 0, 99828), (1, 8, 23), (0, 0, 100000)], [(4, 3, (Int.negSucc 999999999999), (Int.negSucc 0)), (5, 3, (Int.negSucc 999999999999), (Int.negSucc 0)), (7, 3, (Int.negSucc 999999999999), (Int.negSucc 0)), (7, 4, (Int.negSucc 999999999999), 0), (7, 8, (Int.negSucc 999999999999), 0), (8, 3, (Int.negSucc 999999999999), (Int.negSucc 0)), (8, 4, (Int.negSucc 999999999999), 0)], [], [], 0, [(0, (Int.negSucc 0), 40100, [])], [(20, [0, 4, 6, 9], [30, (Int.negSucc 39999), (Int.negSucc 1), 1, 27, 1, 0, 0, 2, 0, 0, (Int.negSucc 0), 0, 0]), (23, [5, 3], [(Int.negSucc 0), 1, (Int.negSucc 0)])]), (314, [(0, (2, 0, 0, [165])), (1, (0, 0, 3, [])), (2, (0, 0, 3, [])), (3, (0, 0, 24, [])), (4, (0, 0, 24, [])), (5, (0, 0, 24, []))], [], (0, 0), [(0, 0, 99686), (1, 5, 24), (0, 0, 100000), (0, 0, 0), (0, 0, 0), (0, 0, 0), (0, 0, 0), (0, 0, 0)], [(3, 4, (Int.negSucc 999999999999), 0), (4, 3, (Int.negSucc 999999999999), 0), (5, 3, (Int.negSucc 999999999999), 0), (5, 4, (Int.negSucc 999999999999), 0)], [], [], 0, [], [])]
def t_Mo_same_ct : ct_L := [(0, 372, e_Mo_rowOf), (0, 521, e_Mo_isPlace), (1, 578, e_Mo_fits)]
set_option maxRecDepth 100000 in
theorem c_Mo_same {l : Launch} {D : va_G} {kA : Nat → ClassId} (h_Mo_fits : ct_ok PRD l D kA GG y_Mo_fits z_Mo_fits e_Mo_fits) (h_Mo_isPlace : ct_ok PRD l D kA GG y_Mo_isPlace z_Mo_isPlace e_Mo_isPlace) (h_Mo_rowOf : ct_ok PRD l D kA GG y_Mo_rowOf z_Mo_rowOf e_Mo_rowOf) : ct_ok PRD l D kA GG y_Mo_same z_Mo_same e_Mo_same := chk_all_ok (FT := [(16, 13, 2), (20, 13, 3), (51, 13, 23), (54, 13, 24), (566, 13, 28), (569, 13, 29), (572, 13, 27)]) (PT := [(566, 13, 28, .int), (569, 13, 29, .int), (572, 13, 27, .int), (575, 13, 30, .boolean), (581, 13, 25, .boolean), (584, 13, 26, .int)]) (CT := t_Mo_same_ct) (KT := []) (NT := []) (AN := n_Mo_same_an) (OT := [o_Mo_same_0, o_Mo_same_1, o_Mo_same_2, o_Mo_same_3, o_Mo_same_4, o_Mo_same_5, o_Mo_same_6, o_Mo_same_7, o_Mo_same_8, o_Mo_same_9]) 8 928 (List.forall_mem_cons.mpr ⟨oo_Mo_same_0, List.forall_mem_cons.mpr ⟨oo_Mo_same_1, List.forall_mem_cons.mpr ⟨oo_Mo_same_2, List.forall_mem_cons.mpr ⟨oo_Mo_same_3, List.forall_mem_cons.mpr ⟨oo_Mo_same_4, List.forall_mem_cons.mpr ⟨oo_Mo_same_5, List.forall_mem_cons.mpr ⟨oo_Mo_same_6, List.forall_mem_cons.mpr ⟨oo_Mo_same_7, List.forall_mem_cons.mpr ⟨oo_Mo_same_8, List.forall_mem_cons.mpr ⟨oo_Mo_same_9, List.forall_mem_nil _⟩⟩⟩⟩⟩⟩⟩⟩⟩⟩) (by decide +kernel) ⟨List.forall_mem_cons.mpr ⟨gf_Mo_16, List.forall_mem_cons.mpr ⟨gf_Mo_20, List.forall_mem_cons.mpr ⟨gf_Mo_51, List.forall_mem_cons.mpr ⟨gf_Mo_54, List.forall_mem_cons.mpr ⟨gf_Mo_566, List.forall_mem_cons.mpr ⟨gf_Mo_569, List.forall_mem_cons.mpr ⟨gf_Mo_572, List.forall_mem_nil _⟩⟩⟩⟩⟩⟩⟩, List.forall_mem_cons.mpr ⟨pf_Mo_566, List.forall_mem_cons.mpr ⟨pf_Mo_569, List.forall_mem_cons.mpr ⟨pf_Mo_572, List.forall_mem_cons.mpr ⟨pf_Mo_575, List.forall_mem_cons.mpr ⟨pf_Mo_581, List.forall_mem_cons.mpr ⟨pf_Mo_584, List.forall_mem_nil _⟩⟩⟩⟩⟩⟩, List.forall_mem_cons.mpr ⟨cl_static (y := y_Mo_rowOf) h_Mo_rowOf wm_2420 wm_9 wm_2418 wm_2419 ⟨by decide, by decide, by decide +kernel⟩ (by decide), List.forall_mem_cons.mpr ⟨cl_static (y := y_Mo_isPlace) h_Mo_isPlace wm_2978 wm_9 wm_2976 wm_2977 ⟨by decide, by decide, by decide +kernel⟩ (by decide), List.forall_mem_cons.mpr ⟨cl_virtual (y := y_Mo_fits) (ci := 13) rfl rfl ⟨_, _, rfl⟩ (by decide +kernel) h_Mo_fits wm_3123 wm_9 wm_3120 wm_3122 wv_14_8 ⟨by decide, by decide, by decide +kernel⟩ (by decide), List.forall_mem_nil _⟩⟩⟩, List.forall_mem_nil _, List.forall_mem_nil _, GG_pl⟩ (by decide +kernel)
def n_Mo_shade_an : List an_T := []
def t_Mo_shade_ct : ct_L := [(0, 387, e_Mo_in), (0, 521, e_Mo_isPlace), (1, 401, e_Mo_edges), (1, 475, e_Mo_nodes), (1, 527, e_Mo_take)]
set_option maxRecDepth 100000 in
theorem c_Mo_shade {l : Launch} {D : va_G} {kA : Nat → ClassId} (h_Mo_edges : ct_ok PRD l D kA GG y_Mo_edges z_Mo_edges e_Mo_edges) (h_Mo_in : ct_ok PRD l D kA GG y_Mo_in z_Mo_in e_Mo_in) (h_Mo_isPlace : ct_ok PRD l D kA GG y_Mo_isPlace z_Mo_isPlace e_Mo_isPlace) (h_Mo_nodes : ct_ok PRD l D kA GG y_Mo_nodes z_Mo_nodes e_Mo_nodes) (h_Mo_take : ct_ok PRD l D kA GG y_Mo_take z_Mo_take e_Mo_take) : ct_ok PRD l D kA GG y_Mo_shade z_Mo_shade e_Mo_shade := chk_all_ok (FT := [(156, 13, 73)]) (PT := []) (CT := t_Mo_shade_ct) (KT := []) (NT := []) (AN := n_Mo_shade_an) (OT := []) 0 396 (List.forall_mem_nil _) (by decide +kernel) ⟨List.forall_mem_cons.mpr ⟨gf_Mo_156, List.forall_mem_nil _⟩, List.forall_mem_nil _, List.forall_mem_cons.mpr ⟨cl_static (y := y_Mo_in) h_Mo_in wm_2971 wm_9 wm_2969 wm_2970 ⟨by decide, by decide, by decide +kernel⟩ (by decide), List.forall_mem_cons.mpr ⟨cl_static (y := y_Mo_isPlace) h_Mo_isPlace wm_2978 wm_9 wm_2976 wm_2977 ⟨by decide, by decide, by decide +kernel⟩ (by decide), List.forall_mem_cons.mpr ⟨cl_virtual (y := y_Mo_edges) (ci := 13) rfl rfl ⟨_, _, rfl⟩ (by decide +kernel) h_Mo_edges wm_3037 wm_9 wm_3034 wm_3036 wv_13_6 ⟨by decide, by decide, by decide +kernel⟩ (by decide), List.forall_mem_cons.mpr ⟨cl_virtual (y := y_Mo_nodes) (ci := 13) rfl rfl ⟨_, _, rfl⟩ (by decide +kernel) h_Mo_nodes wm_3025 wm_9 wm_3022 wm_3024 wv_13_3 ⟨by decide, by decide, by decide +kernel⟩ (by decide), List.forall_mem_cons.mpr ⟨cl_virtual (y := y_Mo_take) (ci := 13) rfl rfl ⟨_, _, rfl⟩ (by decide +kernel) h_Mo_take wm_3091 wm_9 wm_3088 wm_3090 wv_14_2 ⟨by decide, by decide, by decide +kernel⟩ (by decide), List.forall_mem_nil _⟩⟩⟩⟩⟩, List.forall_mem_nil _, List.forall_mem_nil _, GG_pl⟩ (by decide +kernel)
def n_Ho_told_an : List an_T := []
def t_Ho_told_ct : ct_L := [(0, 115, e_Ho_isPlace), (1, 316, e_Dr_report)]
set_option maxRecDepth 100000 in
theorem c_Ho_told {l : Launch} {D : va_G} {kA : Nat → ClassId} (h_Dr_report : ct_ok PRD l D kA GG y_Dr_report z_Dr_report e_Dr_report) (h_Ho_isPlace : ct_ok PRD l D kA GG y_Ho_isPlace z_Ho_isPlace e_Ho_isPlace) : ct_ok PRD l D kA GG y_Ho_told z_Ho_told e_Ho_told := chk_all_ok (FT := [(31, 12, 3)]) (PT := []) (CT := t_Ho_told_ct) (KT := []) (NT := []) (AN := n_Ho_told_an) (OT := []) 0 200 (List.forall_mem_nil _) (by decide +kernel) ⟨List.forall_mem_cons.mpr ⟨gf_Ho_31, List.forall_mem_nil _⟩, List.forall_mem_nil _, List.forall_mem_cons.mpr ⟨cl_static (y := y_Ho_isPlace) h_Ho_isPlace wm_633 wm_1 wm_631 wm_632 ⟨by decide, by decide, by decide +kernel⟩ (by decide), List.forall_mem_cons.mpr ⟨cl_virtual (y := y_Dr_report) (ci := 0) rfl rfl ⟨_, _, rfl⟩ (by decide +kernel) h_Dr_report wm_1832 wm_8 wm_1829 wm_1830 wm_1831 ⟨by decide, by decide, by decide +kernel⟩ (by decide), List.forall_mem_nil _⟩⟩, List.forall_mem_nil _, List.forall_mem_nil _, GG_pl⟩ (by decide +kernel)
def n_Dr_clash_an : List an_T := [(80, [(0, (2, 0, 0, [0])), (1, (0, 0, 47, [])), (2, (0, 0, 24, [])), (3, (0, 1, 47, [])), (4, (0, 0, 24, [])), (5, (0, (Int.negSucc 0), 23, [])), (6, (0, (Int.negSucc 1041999999), 1042000000, [])), (7, (0, (Int.negSucc 1041999999), 1042000000, []))], [], (0, 0), [(0, 0, 99920)], [], [], [], 0, [], []), (190, [(0, (2, 0, 0, [0])), (1, (0, 0, 47, [])), (2, (0, 0, 24, [])), (3, (0, 1, 47, [])), (4, (0, 0, 24, [])), (5, (0, (Int.negSucc 0), 23, [])), (6, (0, 0, 1042000000, [])), (7, (0, 0, 1042000000, [])), (8, (1, (Int.negSucc 2171527999999999999), 2171528000000000000, [])), (10, (1, (Int.negSucc 2171527999999999999), 2171528000000000000, [])), (12, (1, (Int.negSucc 2171527999999999999), 2171528000000000000, [])), (14, (1, (Int.negSucc 2171527999999999999), 2171528000000000000, []))], [], (0, 0), [(0, 0, 99810)], [], [], [], 0, [], []), (204, [(0, (2, 0, 0, [0])), (1, (0, 0, 47, [])), (2, (0, 0, 24, [])), (3, (0, 1, 47, [])), (4, (0, 0, 24, [])), (5, (0, (Int.negSucc 0), 23, [])), (6, (0, 0, 1042000000, [])), (7, (0, 0, 1042000000, [])), (8, (1, (Int.negSucc 2171527999999999999), 2171528000000000000, [])), (10, (1, (Int.negSucc 2171527999999999999), 2171528000000000000, [])), (12, (1, (Int.negSucc 2171527999999999999), 2171528000000000000, [])), (14, (1, (Int.negSucc 2171527999999999999), 2171528000000000000, []))], [], (0, 0), [(0, 0, 99796)], [], [], [], 0, [], []), (218, [(0, (2, 0, 0, [0])), (1, (0, 0, 47, [])), (2, (0, 0, 24, [])), (3, (0, 1, 47, [])), (4, (0, 0, 24, [])), (5, (0, (Int.negSucc 0), 23, [])), (6, (0, 0, 1042000000, [])), (7, (0, 0, 1042000000, [])), (8, (1, (Int.negSucc 2171527999999999999), 2171528000000000000, [])), (10, (1, (Int.negSucc 2171527999999999999), 2171528000000000000, [])), (12, (1, (Int.negSucc 2171527999999999999), 2171528000000000000, [])), (14, (1, (Int.negSucc 2171527999999999999), 2171528000000000000, []))], [], (0, 0), [(0, 0, 99782)], [], [], [], 0, [], []), (232, [(0, (2, 0, 0, [0])), (1, (0, 0, 47, [])), (2, (0, 0, 24, [])), (3, (0, 1, 47, [])), (4, (0, 0, 24, [])), (5, (0, (Int.negSucc 0), 23, [])), (6, (0, 0, 1042000000, [])), (7, (0, 0, 1042000000, [])), (8, (1, (Int.negSucc 2171527999999999999), 2171528000000000000, [])), (10, (1, (Int.negSucc 2171527999999999999), 2171528000000000000, [])), (12, (1, (Int.negSucc 2171527999999999999), 2171528000000000000, [])), (14, (1, (Int.negSucc 2171527999999999999), 2171528000000000000, []))], [], (0, 0), [(0, 0, 99768)], [], [], [], 0, [], []), (234, [(0, (2, 0, 0, [0])), (1, (0, 0, 47, [])), (2, (0, 0, 24, [])), (3, (0, 1, 47, [])), (4, (0, 0, 24, [])), (5, (0, (Int.negSucc 0), 23, [])), (6, (0, 0, 1042000000, [])), (7, (0, 0, 1042000000, [])), (8, (1, (Int.negSucc 2171527999999999999), 2171528000000000000, [])), (10, (1, (Int.negSucc 2171527999999999999), 2171528000000000000, [])), (12, (1, (Int.negSucc 2171527999999999999), 2171528000000000000, [])), (14, (1, (Int.negSucc 2171527999999999999), 2171528000000000000, []))], [], (0, 0), [(0, 0, 99766)], [], [], [], 0, [], []), (287, [(0, (2, 0, 0, [0])), (1, (0, 0, 47, [])), (2, (0, 0, 24, [])), (3, (0, 1, 47, [])), (4, (0, 0, 24, [])), (5, (0, (Int.negSucc 0), 23, [])), (6, (0, 0, 1042000000, [])), (7, (0, 0, 1042000000, [])), (8, (1, (Int.negSucc 2171527999999999999), 2171528000000000000, [])), (10, (1, (Int.negSucc 2171527999999999999), 2171528000000000000, [])), (12, (1, (Int.negSucc 2171527999999999999), 2171528000000000000, [])), (14, (1, (Int.negSucc 2171527999999999999), 2171528000000000000, []))], [], (0, 0), [(0, 0, 99713)], [], [], [], 0, [], []), (321, [(0, (2, 0, 0, [0])), (1, (0, 0, 47, [])), (2, (0, 0, 24, [])), (3, (0, 1, 47, [])), (4, (0, 0, 24, [])), (5, (0, 0, 23, [])), (6, (0, 0, 1042000000, [])), (7, (0, 0, 1042000000, [])), (8, (1, (Int.negSucc 2171527999999999999), 2171528000000000000, [])), (10, (1, (Int.negSucc 2171527999999999999), 2171528000000000000, [])), (12, (1, (Int.negSucc 2171527999999999999), 2171528000000000000, [])), (14, (1, (Int.negSucc 2171527999999999999), 2171528000000000000, []))], [], (0, 0), [(0, 0, 99679)], [], [], [], 0, [], []), (322, [(0, (2, 0, 0, [0])), (1, (0, 0, 47, [])), (2, (0, 0, 24, [])), (3, (0, 1, 47, [])), (4, (0, 0, 24, [])), (5, (0, 0, 23, [])), (6, (0, 0, 1042000000, [])), (7, (0, 0, 1042000000, [])), (8, (1, (Int.negSucc 2171527999999999999), 2171528000000000000, [])), (10, (1, (Int.negSucc 2171527999999999999), 2171528000000000000, [])), (12, (1, (Int.negSucc 2171527999999999999), 2171528000000000000, [])), (14, (1, (Int.negSucc 2171527999999999999), 2171528000000000000, []))], [(0, 0, 1, [])], (0, 0), [(0, 0, 99678)], [], [], [], 0, [], []), (339, [(0, (2, 0, 0, [0])), (1, (0, 0, 47, [])), (2, (0, 0, 24, [])), (3, (0, 1, 47, [])), (4, (0, 0, 24, [])), (5, (0, 0, 23, [])), (6, (0, 0, 1042000000, [])), (7, (0, 0, 1042000000, [])), (8, (1, (Int.negSucc 2171527999999999999), 2171528000000000000, [])), (10, (1, (Int.negSucc 2171527999999999999), 2171528000000000000, [])), (12, (1, (Int.negSucc 2171527999999999999), 2171528000000000000, [])), (14, (1, (Int.negSucc 2171527999999999999), 2171528000000000000, [])), (16, (0, 1, 1, []))], [], (0, 0), [(0, 0, 99661)], [], [], [], 0, [], []), (343, [(0, (2, 0, 0, [0])), (1, (0, 0, 47, [])), (2, (0, 0, 24, [])), (3, (0, 1, 47, [])), (4, (0, 0, 24, [])), (5, (0, 0, 23, [])), (6, (0, 0, 1042000000, [])), (7, (0, 0, 1042000000, [])), (8, (1, (Int.negSucc 2171527999999999999), 2171528000000000000, [])), (10, (1, (Int.negSucc 2171527999999999999), 2171528000000000000, [])), (12, (1, (Int.negSucc 2171527999999999999), 2171528000000000000, [])), (14, (1, (Int.negSucc 2171527999999999999), 2171528000000000000, [])), (16, (0, 0, 1, []))], [], (0, 0), [(0, 0, 99657)], [], [], [], 0, [], []), (344, [(0, (2, 0, 0, [0])), (1, (0, 0, 47, [])), (2, (0, 0, 24, [])), (3, (0, 1, 47, [])), (4, (0, 0, 24, [])), (5, (0, 0, 23, [])), (6, (0, 0, 1042000000, [])), (7, (0, 0, 1042000000, [])), (8, (1, (Int.negSucc 2171527999999999999), 2171528000000000000, [])), (10, (1, (Int.negSucc 2171527999999999999), 2171528000000000000, [])), (12, (1, (Int.negSucc 2171527999999999999), 2171528000000000000, [])), (14, (1, (Int.negSucc 2171527999999999999), 2171528000000000000, [])), (16, (0, 0, 1, []))], [(0, 0, 1, [])], (0, 0), [(0, 0, 99656)], [], [], [], 0, [], [])]
def t_Dr_clash_ct : ct_L := [(1, 198, e_Dr_sideOf), (1, 206, e_Dr_isOnPiece), (13, 128, e_Dr_pointX_np), (37, 128, e_Dr_pointX_np), (58, 128, e_Dr_pointX_np), (85, 128, e_Dr_pointX_np), (93, 202, e_Dr_overlap_np), (118, 134, e_Dr_pointY_np), (142, 134, e_Dr_pointY_np), (163, 134, e_Dr_pointY_np), (190, 134, e_Dr_pointY_np), (198, 202, e_Dr_overlap_np), (271, 128, e_Dr_pointX_np), (289, 134, e_Dr_pointY_np), (340, 128, e_Dr_pointX_np), (364, 134, e_Dr_pointY_np), (409, 128, e_Dr_pointX_np), (430, 134, e_Dr_pointY_np), (481, 128, e_Dr_pointX_np), (508, 134, e_Dr_pointY_np)]
set_option maxRecDepth 100000 in
theorem c_Dr_clash {l : Launch} {D : va_G} {kA : Nat → ClassId} (h_Dr_isOnPiece : ct_ok PRD l D kA GG y_Dr_isOnPiece z_Dr_isOnPiece e_Dr_isOnPiece) (h_Dr_overlap : ct_ok PRD l D kA GG y_Dr_overlap z_Dr_overlap e_Dr_overlap) (h_Dr_pointX : ct_ok PRD l D kA GG y_Dr_pointX z_Dr_pointX e_Dr_pointX) (h_Dr_pointY : ct_ok PRD l D kA GG y_Dr_pointY z_Dr_pointY e_Dr_pointY) (h_Dr_sideOf : ct_ok PRD l D kA GG y_Dr_sideOf z_Dr_sideOf e_Dr_sideOf) : ct_ok PRD l D kA GG y_Dr_clash z_Dr_clash e_Dr_clash := chk_all_ok (FT := [(15, 0, 2), (19, 0, 3)]) (PT := []) (CT := t_Dr_clash_ct) (KT := []) (NT := []) (AN := n_Dr_clash_an) (OT := []) 1 772 (List.forall_mem_nil _) (by decide +kernel) ⟨List.forall_mem_cons.mpr ⟨gf_Dr_15, List.forall_mem_cons.mpr ⟨gf_Dr_19, List.forall_mem_nil _⟩⟩, List.forall_mem_nil _, List.forall_mem_cons.mpr ⟨cl_virtual (y := y_Dr_sideOf) (ci := 0) rfl rfl ⟨_, _, rfl⟩ (by decide +kernel) h_Dr_sideOf wm_2030 wm_8 wm_2027 wm_2029 wv_9_14 ⟨by decide, by decide, by decide +kernel⟩ (by decide), List.forall_mem_cons.mpr ⟨cl_virtual (y := y_Dr_isOnPiece) (ci := 0) rfl rfl ⟨_, _, rfl⟩ (by decide +kernel) h_Dr_isOnPiece wm_2034 wm_8 wm_2031 wm_2033 wv_9_15 ⟨by decide, by decide, by decide +kernel⟩ (by decide), List.forall_mem_cons.mpr ⟨cl_nopa (cl_virtual (y := y_Dr_pointX) (ci := 0) rfl rfl ⟨_, _, rfl⟩ (by decide +kernel) h_Dr_pointX wm_1986 wm_8 wm_1983 wm_1984 wm_1985 ⟨by decide, by decide, by decide +kernel⟩ (by decide)), List.forall_mem_cons.mpr ⟨cl_nopa (cl_virtual (y := y_Dr_pointX) (ci := 0) rfl rfl ⟨_, _, rfl⟩ (by decide +kernel) h_Dr_pointX wm_1986 wm_8 wm_1983 wm_1984 wm_1985 ⟨by decide, by decide, by decide +kernel⟩ (by decide)), List.forall_mem_cons.mpr ⟨cl_nopa (cl_virtual (y := y_Dr_pointX) (ci := 0) rfl rfl ⟨_, _, rfl⟩ (by decide +kernel) h_Dr_pointX wm_1986 wm_8 wm_1983 wm_1984 wm_1985 ⟨by decide, by decide, by decide +kernel⟩ (by decide)), List.forall_mem_cons.mpr ⟨cl_nopa (cl_virtual (y := y_Dr_pointX) (ci := 0) rfl rfl ⟨_, _, rfl⟩ (by decide +kernel) h_Dr_pointX wm_1986 wm_8 wm_1983 wm_1984 wm_1985 ⟨by decide, by decide, by decide +kernel⟩ (by decide)), List.forall_mem_cons.mpr ⟨cl_nopa (cl_static (y := y_Dr_overlap) h_Dr_overlap wm_2024 wm_8 wm_2022 wm_2023 ⟨by decide, by decide, by decide +kernel⟩ (by decide)), List.forall_mem_cons.mpr ⟨cl_nopa (cl_virtual (y := y_Dr_pointY) (ci := 0) rfl rfl ⟨_, _, rfl⟩ (by decide +kernel) h_Dr_pointY wm_1991 wm_8 wm_1988 wm_1989 wm_1990 ⟨by decide, by decide, by decide +kernel⟩ (by decide)), List.forall_mem_cons.mpr ⟨cl_nopa (cl_virtual (y := y_Dr_pointY) (ci := 0) rfl rfl ⟨_, _, rfl⟩ (by decide +kernel) h_Dr_pointY wm_1991 wm_8 wm_1988 wm_1989 wm_1990 ⟨by decide, by decide, by decide +kernel⟩ (by decide)), List.forall_mem_cons.mpr ⟨cl_nopa (cl_virtual (y := y_Dr_pointY) (ci := 0) rfl rfl ⟨_, _, rfl⟩ (by decide +kernel) h_Dr_pointY wm_1991 wm_8 wm_1988 wm_1989 wm_1990 ⟨by decide, by decide, by decide +kernel⟩ (by decide)), List.forall_mem_cons.mpr ⟨cl_nopa (cl_virtual (y := y_Dr_pointY) (ci := 0) rfl rfl ⟨_, _, rfl⟩ (by decide +kernel) h_Dr_pointY wm_1991 wm_8 wm_1988 wm_1989 wm_1990 ⟨by decide, by decide, by decide +kernel⟩ (by decide)), List.forall_mem_cons.mpr ⟨cl_nopa (cl_static (y := y_Dr_overlap) h_Dr_overlap wm_2024 wm_8 wm_2022 wm_2023 ⟨by decide, by decide, by decide +kernel⟩ (by decide)), List.forall_mem_cons.mpr ⟨cl_nopa (cl_virtual (y := y_Dr_pointX) (ci := 0) rfl rfl ⟨_, _, rfl⟩ (by decide +kernel) h_Dr_pointX wm_1986 wm_8 wm_1983 wm_1984 wm_1985 ⟨by decide, by decide, by decide +kernel⟩ (by decide)), List.forall_mem_cons.mpr ⟨cl_nopa (cl_virtual (y := y_Dr_pointY) (ci := 0) rfl rfl ⟨_, _, rfl⟩ (by decide +kernel) h_Dr_pointY wm_1991 wm_8 wm_1988 wm_1989 wm_1990 ⟨by decide, by decide, by decide +kernel⟩ (by decide)), List.forall_mem_cons.mpr ⟨cl_nopa (cl_virtual (y := y_Dr_pointX) (ci := 0) rfl rfl ⟨_, _, rfl⟩ (by decide +kernel) h_Dr_pointX wm_1986 wm_8 wm_1983 wm_1984 wm_1985 ⟨by decide, by decide, by decide +kernel⟩ (by decide)), List.forall_mem_cons.mpr ⟨cl_nopa (cl_virtual (y := y_Dr_pointY) (ci := 0) rfl rfl ⟨_, _, rfl⟩ (by decide +kernel) h_Dr_pointY wm_1991 wm_8 wm_1988 wm_1989 wm_1990 ⟨by decide, by decide, by decide +kernel⟩ (by decide)), List.forall_mem_cons.mpr ⟨cl_nopa (cl_virtual (y := y_Dr_pointX) (ci := 0) rfl rfl ⟨_, _, rfl⟩ (by decide +kernel) h_Dr_pointX wm_1986 wm_8 wm_1983 wm_1984 wm_1985 ⟨by decide, by decide, by decide +kernel⟩ (by decide)), List.forall_mem_cons.mpr ⟨cl_nopa (cl_virtual (y := y_Dr_pointY) (ci := 0) rfl rfl ⟨_, _, rfl⟩ (by decide +kernel) h_Dr_pointY wm_1991 wm_8 wm_1988 wm_1989 wm_1990 ⟨by decide, by decide, by decide +kernel⟩ (by decide)), List.forall_mem_cons.mpr ⟨cl_nopa (cl_virtual (y := y_Dr_pointX) (ci := 0) rfl rfl ⟨_, _, rfl⟩ (by decide +kernel) h_Dr_pointX wm_1986 wm_8 wm_1983 wm_1984 wm_1985 ⟨by decide, by decide, by decide +kernel⟩ (by decide)), List.forall_mem_cons.mpr ⟨cl_nopa (cl_virtual (y := y_Dr_pointY) (ci := 0) rfl rfl ⟨_, _, rfl⟩ (by decide +kernel) h_Dr_pointY wm_1991 wm_8 wm_1988 wm_1989 wm_1990 ⟨by decide, by decide, by decide +kernel⟩ (by decide)), List.forall_mem_nil _⟩⟩⟩⟩⟩⟩⟩⟩⟩⟩⟩⟩⟩⟩⟩⟩⟩⟩⟩⟩, List.forall_mem_nil _, List.forall_mem_nil _, GG_pl⟩ (by decide +kernel)
def n_Dr_countStruckNodes_an : List an_T := [(4, [(0, (2, 0, 0, [0])), (1, (1, (Int.negSucc 9223372036854775807), 9223372036854775807, [])), (3, (0, 0, 48, []))], [], (0, 0), [(0, 0, 99996), (1, 2, 48), (0, 0, 100000), (0, 0, 0), (0, 0, 0)], [], [], [], 0, [], []), (18, [(0, (2, 0, 0, [0])), (1, (1, (Int.negSucc 9223372036854775807), 9223372036854775807, [])), (3, (0, 0, 47, [])), (4, (0, 0, 24, []))], [], (0, 0), [(0, 0, 99996), (1, 2, 48), (0, 0, 99982), (1, 3, 24), (0, 0, 100000)], [], [], [], 0, [], [])]
def t_Dr_countStruckNodes_ct : ct_L := [(1, 210, e_Dr_isStruck)]
set_option maxRecDepth 100000 in
theorem c_Dr_countStruckNodes {l : Launch} {D : va_G} {kA : Nat → ClassId} (h_Dr_isStruck : ct_ok PRD l D kA GG y_Dr_isStruck z_Dr_isStruck e_Dr_isStruck) : ct_ok PRD l D kA GG y_Dr_countStruckNodes z_Dr_countStruckNodes e_Dr_countStruckNodes := chk_all_ok (FT := [(74, 0, 0), (106, 3, 7), (109, 3, 8), (141, 3, 0), (151, 3, 1)]) (PT := []) (CT := t_Dr_countStruckNodes_ct) (KT := []) (NT := []) (AN := n_Dr_countStruckNodes_an) (OT := []) 5 204 (List.forall_mem_nil _) (by decide +kernel) ⟨List.forall_mem_cons.mpr ⟨gf_Dr_74, List.forall_mem_cons.mpr ⟨gf_Dr_106, List.forall_mem_cons.mpr ⟨gf_Dr_109, List.forall_mem_cons.mpr ⟨gf_Dr_141, List.forall_mem_cons.mpr ⟨gf_Dr_151, List.forall_mem_nil _⟩⟩⟩⟩⟩, List.forall_mem_nil _, List.forall_mem_cons.mpr ⟨cl_virtual (y := y_Dr_isStruck) (ci := 0) rfl rfl ⟨_, _, rfl⟩ (by decide +kernel) h_Dr_isStruck wm_2046 wm_8 wm_2043 wm_2045 wv_10_2 ⟨by decide, by decide, by decide +kernel⟩ (by decide), List.forall_mem_nil _⟩, List.forall_mem_nil _, List.forall_mem_nil _, GG_pl⟩ (by decide +kernel)
def n_Dr_putLabel_an : List an_T := [(2, [(0, (2, 0, 0, [0])), (1, (0, 0, 47, [])), (2, (0, 0, 25, []))], [], (0, 0), [(0, 0, 99998), (1, 2, 25), (0, 0, 100000)], [], [], [], 0, [], [])]
def t_Dr_putLabel_ct : ct_L := [(1, 137, e_Dr_isFree), (49, 128, e_Dr_pointX_np), (73, 128, e_Dr_pointX_np), (87, 131, e_jMath_floorDiv1_v155), (109, 134, e_Dr_pointY_np), (133, 134, e_Dr_pointY_np), (147, 131, e_jMath_floorDiv1_v155)]
set_option maxRecDepth 100000 in
theorem c_Dr_putLabel {l : Launch} {D : va_G} {kA : Nat → ClassId} (h_Dr_isFree : ct_ok PRD l D kA GG y_Dr_isFree z_Dr_isFree e_Dr_isFree) (h_Dr_pointX : ct_ok PRD l D kA GG y_Dr_pointX z_Dr_pointX e_Dr_pointX) (h_Dr_pointY : ct_ok PRD l D kA GG y_Dr_pointY z_Dr_pointY e_Dr_pointY) : ct_ok PRD l D kA GG y_Dr_putLabel z_Dr_putLabel e_Dr_putLabel := chk_all_ok (FT := [(22, 0, 4), (56, 0, 15), (59, 0, 16)]) (PT := []) (CT := t_Dr_putLabel_ct) (KT := []) (NT := []) (AN := n_Dr_putLabel_an) (OT := []) 3 224 (List.forall_mem_nil _) (by decide +kernel) ⟨List.forall_mem_cons.mpr ⟨gf_Dr_22, List.forall_mem_cons.mpr ⟨gf_Dr_56, List.forall_mem_cons.mpr ⟨gf_Dr_59, List.forall_mem_nil _⟩⟩⟩, List.forall_mem_nil _, List.forall_mem_cons.mpr ⟨cl_virtual (y := y_Dr_isFree) (ci := 0) rfl rfl ⟨_, _, rfl⟩ (by decide +kernel) h_Dr_isFree wm_1995 wm_8 wm_1992 wm_1994 wv_9_10 ⟨by decide, by decide, by decide +kernel⟩ (by decide), List.forall_mem_cons.mpr ⟨cl_nopa (cl_virtual (y := y_Dr_pointX) (ci := 0) rfl rfl ⟨_, _, rfl⟩ (by decide +kernel) h_Dr_pointX wm_1986 wm_8 wm_1983 wm_1984 wm_1985 ⟨by decide, by decide, by decide +kernel⟩ (by decide)), List.forall_mem_cons.mpr ⟨cl_nopa (cl_virtual (y := y_Dr_pointX) (ci := 0) rfl rfl ⟨_, _, rfl⟩ (by decide +kernel) h_Dr_pointX wm_1986 wm_8 wm_1983 wm_1984 wm_1985 ⟨by decide, by decide, by decide +kernel⟩ (by decide)), List.forall_mem_cons.mpr ⟨cl_static (y := y_jMath_floorDiv1) c_jMath_floorDiv1_v155 wm_1617 wm_10 wm_1987 wm_1616 ⟨by decide, by decide, by decide +kernel⟩ (by decide), List.forall_mem_cons.mpr ⟨cl_nopa (cl_virtual (y := y_Dr_pointY) (ci := 0) rfl rfl ⟨_, _, rfl⟩ (by decide +kernel) h_Dr_pointY wm_1991 wm_8 wm_1988 wm_1989 wm_1990 ⟨by decide, by decide, by decide +kernel⟩ (by decide)), List.forall_mem_cons.mpr ⟨cl_nopa (cl_virtual (y := y_Dr_pointY) (ci := 0) rfl rfl ⟨_, _, rfl⟩ (by decide +kernel) h_Dr_pointY wm_1991 wm_8 wm_1988 wm_1989 wm_1990 ⟨by decide, by decide, by decide +kernel⟩ (by decide)), List.forall_mem_cons.mpr ⟨cl_static (y := y_jMath_floorDiv1) c_jMath_floorDiv1_v155 wm_1617 wm_10 wm_1987 wm_1616 ⟨by decide, by decide, by decide +kernel⟩ (by decide), List.forall_mem_nil _⟩⟩⟩⟩⟩⟩⟩, List.forall_mem_nil _, List.forall_mem_nil _, GG_pl⟩ (by decide +kernel)
def n_Pn_joinParts_an : List an_T := [(2, [(0, (2, 0, 0, [7])), (1, (2, 0, 0, [2])), (2, (0, 1, 24, []))], [], (0, 0), [(0, 0, 99998), (1, 2, 24), (0, 0, 100000), (0, 0, 0), (0, 0, 0)], [], [], [], 0, [], []), (12, [(0, (2, 0, 0, [7])), (1, (2, 0, 0, [2])), (2, (0, 1, 23, [])), (3, (0, 0, 24, []))], [], (0, 0), [(0, 0, 99998), (1, 2, 24), (0, 0, 99988), (1, 3, 24), (0, 0, 100000)], [], [], [], 0, [], [])]
def t_Pn_joinParts_ct : ct_L := [(1, 107, e_Ne_insertLast), (121, 104, e_Ne_join_at_Nq_gx), (271, 111, e_Ne_traceFaces_at_Nq)]
set_option maxRecDepth 100000 in
theorem c_Pn_joinParts {l : Launch} {D : va_G} {kA : Nat → ClassId} (h_Ne_insertLast : ct_ok PRD l D kA GG y_Ne_insertLast z_Ne_insertLast e_Ne_insertLast) (h_Ne_join_at_Nq_gx : ct_ok PRD l D kA GG y_Ne_join_at_Nq_gx z_Ne_join_at_Nq_gx e_Ne_join_at_Nq_gx) (h_Ne_traceFaces_at_Nq : ct_ok PRD l D kA GG y_Ne_traceFaces_at_Nq z_Ne_traceFaces_at_Nq e_Ne_traceFaces_at_Nq) : ct_ok PRD l D kA GG y_Pn_joinParts z_Pn_joinParts e_Pn_joinParts := chk_all_ok (FT := [(12, 7, 0), (61, 2, 1), (86, 5, 5), (101, 2, 4)]) (PT := []) (CT := t_Pn_joinParts_ct) (KT := []) (NT := []) (AN := n_Pn_joinParts_an) (OT := []) 5 204 (List.forall_mem_nil _) (by decide +kernel) ⟨List.forall_mem_cons.mpr ⟨gf_Pn_12, List.forall_mem_cons.mpr ⟨gf_Pn_61, List.forall_mem_cons.mpr ⟨gf_Pn_86, List.forall_mem_cons.mpr ⟨gf_Pn_101, List.forall_mem_nil _⟩⟩⟩⟩, List.forall_mem_nil _, List.forall_mem_cons.mpr ⟨cl_virtual (y := y_Ne_insertLast) (ci := 5) rfl rfl ⟨_, _, rfl⟩ (by decide +kernel) h_Ne_insertLast wm_1522 wm_6 wm_1519 wm_1520 wm_1521 ⟨by decide, by decide, by decide +kernel⟩ (by decide), List.forall_mem_cons.mpr ⟨cl_virtual (y := y_Ne_join_at_Nq_gx) (ci := 5) rfl rfl ⟨_, _, rfl⟩ (by decide +kernel) h_Ne_join_at_Nq_gx wm_1065 wm_6 wm_1518 wm_1063 wm_1064 ⟨by decide, by decide, by decide +kernel⟩ (by decide), List.forall_mem_cons.mpr ⟨cl_virtual (y := y_Ne_traceFaces_at_Nq) (ci := 5) rfl rfl ⟨_, _, rfl⟩ (by decide +kernel) h_Ne_traceFaces_at_Nq wm_1150 wm_6 wm_1531 wm_1148 wm_1149 ⟨by decide, by decide, by decide +kernel⟩ (by decide), List.forall_mem_nil _⟩⟩⟩, List.forall_mem_nil _, List.forall_mem_nil _, GG_pl⟩ (by decide +kernel)
set_option maxHeartbeats 4000000 in
theorem vc_Mo_ofNode_0_r0 (x2 : Int) (styleOne_0 : Int) (k2 : (-1) ≤ x2 ∧ x2 ≤ 47) (g0 : x2 = styleOne_0) (f1 : (-1) * styleOne_0 + 0 ≤ 0) (f2 : 1 * styleOne_0 + 0 ≤ 23) (kz_0_165 : (-1) ≤ styleOne_0 ∧ styleOne_0 ≤ 47) : 0 ≤ x2 ∧ x2 ≤ 23 := by
  first | assumption | omega | grind
def o_Mo_ofNode_0 : or_T := (4, 3, [(0, (2, 0, 0, [165])), (2, (0, -1, 47, []))], [(9, [2, 0], [165]), (20, [0], [30, 0, -1, 1, 165]), (20, [0], [30, 23, 1, 1, 165])], [(2, (0, 0, 23, []))], [], [], [], [])
theorem oo_Mo_ofNode_0 {kA : Nat → ClassId} : or_ok PRD kA GG o_Mo_ofNode_0 := by
  refine or_mk fun A ta ws vs hD hth hl => ?_
  intro t0 r0 t2 k2 f0 f1 f2
  replace f0 := shm_195 f0
  have g0 : v_iv (n_v vs 2) = w_fi ws (n_v vs 0) 165 := congrArg v_iv f0
  have kz_0_165 := fdq_27 hD hth r0
  have hrf0 : 0 ≤ v_iv (n_v vs 2) ∧ v_iv (n_v vs 2) ≤ 23 := vc_Mo_ofNode_0_r0 (v_iv (n_v vs 2)) (w_fi ws (n_v vs 0) 165) k2 g0 (shm_196 f1) (shm_197 f2) kz_0_165
  have rf2 : tv_ok ta (0, 0, 23, []) (n_v vs 2) := tv_in t2 (by omega) (by omega)
  refine ⟨List.forall_mem_cons.mpr ⟨rf2, (fun _ h => (by cases h))⟩, [], trivial, ?_, (fun _ h => (by cases h))⟩
  rw [List.append_nil]
  exact (fun _ h => (by cases h))
def n_Mo_ofNode_an : List an_T := [(13, [(0, (2, 0, 0, [165])), (1, (0, 0, 9, [])), (2, (0, 0, 23, [])), (3, (0, 0, 48, [])), (4, (0, 0, 48, [])), (5, (0, 0, 48, []))], [], (0, 0), [(0, 0, 99987), (1, 5, 48), (0, 0, 100000)], [(3, 5, (Int.negSucc 999999999999), 0), (4, 5, (Int.negSucc 999999999999), 0)], [], [], 0, [], [])]
def t_Mo_ofNode_ct : ct_L := [(1, 394, e_Mo_tail), (1, 398, e_Mo_head), (1, 401, e_Mo_edges), (1, 723, e_Mo_size), (1, 725, e_Mo_groupOf), (1, 1023, e_Mo_px), (1, 1029, e_Mo_py)]
set_option maxRecDepth 100000 in
theorem c_Mo_ofNode {l : Launch} {D : va_G} {kA : Nat → ClassId} (h_Mo_edges : ct_ok PRD l D kA GG y_Mo_edges z_Mo_edges e_Mo_edges) (h_Mo_groupOf : ct_ok PRD l D kA GG y_Mo_groupOf z_Mo_groupOf e_Mo_groupOf) (h_Mo_head : ct_ok PRD l D kA GG y_Mo_head z_Mo_head e_Mo_head) (h_Mo_px : ct_ok PRD l D kA GG y_Mo_px z_Mo_px e_Mo_px) (h_Mo_py : ct_ok PRD l D kA GG y_Mo_py z_Mo_py e_Mo_py) (h_Mo_size : ct_ok PRD l D kA GG y_Mo_size z_Mo_size e_Mo_size) (h_Mo_tail : ct_ok PRD l D kA GG y_Mo_tail z_Mo_tail e_Mo_tail) : ct_ok PRD l D kA GG y_Mo_ofNode z_Mo_ofNode e_Mo_ofNode := chk_all_ok (FT := [(38, 13, 19), (120, 13, 61), (354, 13, 166), (357, 13, 167), (1020, 13, 139), (1181, 13, 165)]) (PT := []) (CT := t_Mo_ofNode_ct) (KT := [(1, 546, .int (1000000), (0, 1000000, 1000000, [])), (2, 1007, .long (-1), (1, -1, -1, []))]) (NT := []) (AN := n_Mo_ofNode_an) (OT := [o_Mo_ofNode_0]) 3 572 (List.forall_mem_cons.mpr ⟨oo_Mo_ofNode_0, List.forall_mem_nil _⟩) (by decide +kernel) ⟨List.forall_mem_cons.mpr ⟨gf_Mo_38, List.forall_mem_cons.mpr ⟨gf_Mo_120, List.forall_mem_cons.mpr ⟨gf_Mo_354, List.forall_mem_cons.mpr ⟨gf_Mo_357, List.forall_mem_cons.mpr ⟨gf_Mo_1020, List.forall_mem_cons.mpr ⟨gf_Mo_1181, List.forall_mem_nil _⟩⟩⟩⟩⟩⟩, List.forall_mem_nil _, List.forall_mem_cons.mpr ⟨cl_virtual (y := y_Mo_tail) (ci := 13) rfl rfl ⟨_, _, rfl⟩ (by decide +kernel) h_Mo_tail wm_3045 wm_9 wm_3042 wm_3044 wv_13_8 ⟨by decide, by decide, by decide +kernel⟩ (by decide), List.forall_mem_cons.mpr ⟨cl_virtual (y := y_Mo_head) (ci := 13) rfl rfl ⟨_, _, rfl⟩ (by decide +kernel) h_Mo_head wm_3049 wm_9 wm_3046 wm_3048 wv_13_9 ⟨by decide, by decide, by decide +kernel⟩ (by decide), List.forall_mem_cons.mpr ⟨cl_virtual (y := y_Mo_edges) (ci := 13) rfl rfl ⟨_, _, rfl⟩ (by decide +kernel) h_Mo_edges wm_3037 wm_9 wm_3034 wm_3036 wv_13_6 ⟨by decide, by decide, by decide +kernel⟩ (by decide), List.forall_mem_cons.mpr ⟨cl_virtual (y := y_Mo_size) (ci := 13) rfl rfl ⟨_, _, rfl⟩ (by decide +kernel) h_Mo_size wm_3307 wm_9 wm_3304 wm_3306 wv_17_0 ⟨by decide, by decide, by decide +kernel⟩ (by decide), List.forall_mem_cons.mpr ⟨cl_virtual (y := y_Mo_groupOf) (ci := 13) rfl rfl ⟨_, _, rfl⟩ (by decide +kernel) h_Mo_groupOf wm_3311 wm_9 wm_3308 wm_3310 wv_17_1 ⟨by decide, by decide, by decide +kernel⟩ (by decide), List.forall_mem_cons.mpr ⟨cl_virtual (y := y_Mo_px) (ci := 13) rfl rfl ⟨_, _, rfl⟩ (by decide +kernel) h_Mo_px wm_3675 wm_9 wm_3672 wm_3674 wv_21_14 ⟨by decide, by decide, by decide +kernel⟩ (by decide), List.forall_mem_cons.mpr ⟨cl_virtual (y := y_Mo_py) (ci := 13) rfl rfl ⟨_, _, rfl⟩ (by decide +kernel) h_Mo_py wm_3679 wm_9 wm_3676 wm_3678 wv_21_15 ⟨by decide, by decide, by decide +kernel⟩ (by decide), List.forall_mem_nil _⟩⟩⟩⟩⟩⟩⟩, List.forall_mem_cons.mpr ⟨kx_Mo_1_546, List.forall_mem_cons.mpr ⟨⟨kt_mk2 wm_3625, fun _ => Or.inr (Or.inl ⟨rfl, _, rfl, by decide, by decide⟩)⟩, List.forall_mem_nil _⟩⟩, List.forall_mem_nil _, GG_pl⟩ (by decide +kernel)

def n_Mo_told_an : List an_T := []
def t_Mo_told_ct : ct_L := [(0, 387, e_Mo_in), (0, 521, e_Mo_isPlace), (1, 401, e_Mo_edges), (1, 475, e_Mo_nodes), (1, 509, e_Mo_groups), (1, 527, e_Mo_take)]
