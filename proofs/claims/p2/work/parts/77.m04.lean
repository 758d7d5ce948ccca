def n_Fa_learnStrong_an : List an_T := [(10, [(0, (2, 0, 0, [2])), (1, (2, 0, 0, [3])), (2, (0, 0, 48, []))], [], (0, 0), [(0, 0, 99990), (1, 2, 48), (0, 0, 100000)], [], [], [], 0, [], [])]
def t_Fa_learnStrong_ct : ct_L := [(1, 148, e_Fa_numberStrong), (18, 139, e_jArr_fill1_v18)]
set_option maxRecDepth 100000 in
theorem c_Fa_learnStrong {l : Launch} {D : va_G} {kA : Nat → ClassId} (h_Fa_numberStrong : ct_ok l D kA GG y_Fa_numberStrong z_Fa_numberStrong e_Fa_numberStrong) : ct_ok l D kA GG y_Fa_learnStrong z_Fa_learnStrong e_Fa_learnStrong := chk_all_ok (FT := [(32, 2, 6), (45, 2, 10), (64, 3, 0), (69, 3, 1), (72, 3, 7), (75, 3, 8), (145, 3, 10)]) (PT := [(22, 2, 3, .int)]) (CT := t_Fa_learnStrong_ct) (KT := []) (NT := []) (AN := n_Fa_learnStrong_an) (OT := []) 3 240 (List.forall_mem_nil _) (by decide +kernel) ⟨List.forall_mem_cons.mpr ⟨gf_Fa_32, List.forall_mem_cons.mpr ⟨gf_Fa_45, List.forall_mem_cons.mpr ⟨gf_Fa_64, List.forall_mem_cons.mpr ⟨gf_Fa_69, List.forall_mem_cons.mpr ⟨gf_Fa_72, List.forall_mem_cons.mpr ⟨gf_Fa_75, List.forall_mem_cons.mpr ⟨gf_Fa_145, List.forall_mem_nil _⟩⟩⟩⟩⟩⟩⟩, List.forall_mem_cons.mpr ⟨pf_Fa_22, List.forall_mem_nil _⟩, List.forall_mem_cons.mpr ⟨cl_virtual (y := y_Fa_numberStrong) (ci := 2) rfl rfl ⟨_, _, rfl⟩ (by decide +kernel) h_Fa_numberStrong wm_859 wm_7 wm_856 wm_858 wv_2_2 ⟨by decide, by decide, by decide +kernel⟩ (by decide), List.forall_mem_cons.mpr ⟨cl_static (y := y_jArr_fill1) c_jArr_fill1_v18 wm_55 wm_4 wm_855 wm_54 ⟨by decide, by decide, by decide +kernel⟩ (by decide), List.forall_mem_nil _⟩⟩, List.forall_mem_nil _, List.forall_mem_nil _⟩ (by decide +kernel)
def n_Gr_relink_an : List an_T := [(18, [(0, (2, 0, 0, [3])), (1, (0, 0, 48, []))], [], (0, 0), [(0, 0, 99982), (1, 1, 48), (0, 0, 100000)], [], [], [], 0, [], [])]
def t_Gr_relink_ct : ct_L := [(1, 100, e_Gr_tie), (18, 71, e_jArr_fill1_v7), (42, 71, e_jArr_fill1_v8)]
set_option maxRecDepth 100000 in
theorem c_Gr_relink {l : Launch} {D : va_G} {kA : Nat → ClassId} (h_Gr_tie : ct_ok l D kA GG y_Gr_tie z_Gr_tie e_Gr_tie) : ct_ok l D kA GG y_Gr_relink z_Gr_relink e_Gr_relink := chk_all_ok (FT := [(15, 3, 1), (56, 3, 14), (59, 3, 15)]) (PT := []) (CT := t_Gr_relink_ct) (KT := []) (NT := []) (AN := n_Gr_relink_an) (OT := []) 3 200 (List.forall_mem_nil _) (by decide +kernel) ⟨List.forall_mem_cons.mpr ⟨gf_Gr_15, List.forall_mem_cons.mpr ⟨gf_Gr_56, List.forall_mem_cons.mpr ⟨gf_Gr_59, List.forall_mem_nil _⟩⟩⟩, List.forall_mem_nil _, List.forall_mem_cons.mpr ⟨cl_virtual (y := y_Gr_tie) (ci := 3) rfl rfl ⟨_, _, rfl⟩ (by decide +kernel) h_Gr_tie wm_776 wm_3 wm_773 wm_775 wv_1_11 ⟨by decide, by decide, by decide +kernel⟩ (by decide), List.forall_mem_cons.mpr ⟨cl_static (y := y_jArr_fill1) c_jArr_fill1_v7 wm_55 wm_4 wm_53 wm_54 ⟨by decide, by decide, by decide +kernel⟩ (by decide), List.forall_mem_cons.mpr ⟨cl_static (y := y_jArr_fill1) c_jArr_fill1_v8 wm_55 wm_4 wm_53 wm_54 ⟨by decide, by decide, by decide +kernel⟩ (by decide), List.forall_mem_nil _⟩⟩⟩, List.forall_mem_nil _, List.forall_mem_nil _⟩ (by decide +kernel)
def n_Ne_edgeAround_an : List an_T := [(33, [(0, (2, 0, 0, [5])), (1, (0, 0, 23, [])), (2, (0, 0, 62, [])), (3, (0, -1, 71, [])), (4, (0, 0, 62, []))], [], (0, 0), [(0, 0, 99967), (1, 4, 62), (0, 0, 100000)], [], [], [], 0, [], [])]
def t_Ne_edgeAround_ct : ct_L := [(1, 84, e_Ne_endAt), (48, 94, e_jInt_bitCount_v19)]
set_option maxRecDepth 100000 in
theorem c_Ne_edgeAround {l : Launch} {D : va_G} {kA : Nat → ClassId} (h_Ne_endAt : ct_ok l D kA GG y_Ne_endAt z_Ne_endAt e_Ne_endAt) : ct_ok l D kA GG y_Ne_edgeAround z_Ne_edgeAround e_Ne_edgeAround := chk_all_ok (FT := [(28, 5, 5), (40, 5, 9), (46, 5, 11), (49, 5, 12)]) (PT := []) (CT := t_Ne_edgeAround_ct) (KT := []) (NT := []) (AN := n_Ne_edgeAround_an) (OT := []) 3 200 (List.forall_mem_nil _) (by decide +kernel) ⟨List.forall_mem_cons.mpr ⟨gf_Ne_28, List.forall_mem_cons.mpr ⟨gf_Ne_40, List.forall_mem_cons.mpr ⟨gf_Ne_46, List.forall_mem_cons.mpr ⟨gf_Ne_49, List.forall_mem_nil _⟩⟩⟩⟩, List.forall_mem_nil _, List.forall_mem_cons.mpr ⟨cl_virtual (y := y_Ne_endAt) (ci := 5) rfl rfl ⟨_, _, rfl⟩ (by decide +kernel) h_Ne_endAt wm_1138 wm_6 wm_1151 wm_1136 wm_1137 ⟨by decide, by decide, by decide +kernel⟩ (by decide), List.forall_mem_cons.mpr ⟨cl_static (y := y_jInt_bitCount) c_jInt_bitCount_v19 wm_870 wm_17 wm_1177 wm_869 ⟨by decide, by decide, by decide +kernel⟩ (by decide), List.forall_mem_nil _⟩⟩, List.forall_mem_nil _, List.forall_mem_nil _⟩ (by decide +kernel)
def n_Ne_insertAhead_an : List an_T := [(6, [(0, (2, 0, 0, [5])), (1, (0, 0, 71, [])), (2, (0, 0, 24, [])), (3, (0, -1, 71, [])), (4, (0, -1, 71, [])), (5, (0, 0, 72, []))], [], (0, 0), [(0, 0, 99994), (1, 5, 72), (0, 0, 100000)], [], [], [], 0, [], [])]
def t_Ne_insertAhead_ct : ct_L := [(1, 84, e_Ne_endAt), (1, 87, e_Ne_insertBehind)]
set_option maxRecDepth 100000 in
theorem c_Ne_insertAhead {l : Launch} {D : va_G} {kA : Nat → ClassId} (h_Ne_endAt : ct_ok l D kA GG y_Ne_endAt z_Ne_endAt e_Ne_endAt) (h_Ne_insertBehind : ct_ok l D kA GG y_Ne_insertBehind z_Ne_insertBehind e_Ne_insertBehind) : ct_ok l D kA GG y_Ne_insertAhead z_Ne_insertAhead e_Ne_insertAhead := chk_all_ok (FT := [(31, 5, 6), (46, 5, 11)]) (PT := []) (CT := t_Ne_insertAhead_ct) (KT := []) (NT := []) (AN := n_Ne_insertAhead_an) (OT := []) 3 264 (List.forall_mem_nil _) (by decide +kernel) ⟨List.forall_mem_cons.mpr ⟨gf_Ne_31, List.forall_mem_cons.mpr ⟨gf_Ne_46, List.forall_mem_nil _⟩⟩, List.forall_mem_nil _, List.forall_mem_cons.mpr ⟨cl_virtual (y := y_Ne_endAt) (ci := 5) rfl rfl ⟨_, _, rfl⟩ (by decide +kernel) h_Ne_endAt wm_1138 wm_6 wm_1151 wm_1136 wm_1137 ⟨by decide, by decide, by decide +kernel⟩ (by decide), List.forall_mem_cons.mpr ⟨cl_virtual (y := y_Ne_insertBehind) (ci := 5) rfl rfl ⟨_, _, rfl⟩ (by decide +kernel) h_Ne_insertBehind wm_1530 wm_6 wm_1527 wm_1528 wm_1529 ⟨by decide, by decide, by decide +kernel⟩ (by decide), List.forall_mem_nil _⟩⟩, List.forall_mem_nil _, List.forall_mem_nil _⟩ (by decide +kernel)
def n_Pl_gatherItems_an : List an_T := [(9, [(0, (2, 0, 0, [6])), (1, (0, 0, 7, [])), (2, (0, 1, 8, []))], [], (0, 0), [(0, 0, 99991), (1, 2, 8), (0, 0, 100000)], [], [((0, 0), (2, 0, 0, [3]))], [], 0, [], []), (57, [(0, (2, 0, 0, [6])), (1, (0, 0, 7, [])), (2, (0, 0, 24, []))], [], (0, 0), [(0, 0, 99943), (1, 2, 24), (0, 0, 100000)], [], [((0, 0), (2, 0, 0, [3]))], [], 0, [], [])]
def t_Pl_gatherItems_ct : ct_L := [(1, 169, e_Gr_sizeOfGroup), (1, 187, e_Pl_insertItem)]
set_option maxRecDepth 100000 in
theorem c_Pl_gatherItems {l : Launch} {D : va_G} {kA : Nat → ClassId} (h_Gr_sizeOfGroup : ct_ok l D kA GG y_Gr_sizeOfGroup z_Gr_sizeOfGroup e_Gr_sizeOfGroup) (h_Pl_insertItem : ct_ok l D kA GG y_Pl_insertItem z_Pl_insertItem e_Pl_insertItem) : ct_ok l D kA GG y_Pl_gatherItems z_Pl_gatherItems e_Pl_gatherItems := chk_all_ok (FT := [(9, 6, 0), (74, 3, 0), (166, 3, 2), (184, 3, 11), (191, 3, 6), (194, 3, 5)]) (PT := [(48, 6, 11, .int)]) (CT := t_Pl_gatherItems_ct) (KT := []) (NT := []) (AN := n_Pl_gatherItems_an) (OT := []) 3 236 (List.forall_mem_nil _) (by decide +kernel) ⟨List.forall_mem_cons.mpr ⟨gf_Pl_9, List.forall_mem_cons.mpr ⟨gf_Pl_74, List.forall_mem_cons.mpr ⟨gf_Pl_166, List.forall_mem_cons.mpr ⟨gf_Pl_184, List.forall_mem_cons.mpr ⟨gf_Pl_191, List.forall_mem_cons.mpr ⟨gf_Pl_194, List.forall_mem_nil _⟩⟩⟩⟩⟩⟩, List.forall_mem_cons.mpr ⟨pf_Pl_48, List.forall_mem_nil _⟩, List.forall_mem_cons.mpr ⟨cl_virtual (y := y_Gr_sizeOfGroup) (ci := 3) rfl rfl ⟨_, _, rfl⟩ (by decide +kernel) h_Gr_sizeOfGroup wm_946 wm_3 wm_1726 wm_944 wm_945 ⟨by decide, by decide, by decide +kernel⟩ (by decide), List.forall_mem_cons.mpr ⟨cl_virtual (y := y_Pl_insertItem) (ci := 6) rfl rfl ⟨_, _, rfl⟩ (by decide +kernel) h_Pl_insertItem wm_1734 wm_21 wm_1731 wm_1733 wv_7_15 ⟨by decide, by decide, by decide +kernel⟩ (by decide), List.forall_mem_nil _⟩⟩, List.forall_mem_nil _, List.forall_mem_nil _⟩ (by decide +kernel)
def n_Pl_placeSideBySide_an : List an_T := [(22, [(0, (2, 0, 0, [6])), (1, (0, 0, 24, [])), (2, (0, 0, 16777215, [])), (3, (0, 1, 24, []))], [], (0, 0), [(0, 0, 99978), (1, 3, 24), (0, 0, 100000), (0, 0, 0), (0, 0, 0)], [], [((0, 0), (2, 0, 0, [3])), ((0, 1), (2, 0, 0, [0]))], [], 0, [], []), (47, [(0, (2, 0, 0, [6])), (1, (0, 2, 24, [])), (2, (0, 0, 16777215, [])), (3, (0, 1, 23, [])), (4, (0, 0, 16777215, [])), (5, (0, -1000000, 2147483647, [])), (6, (0, 0, 24, []))], [], (0, 0), [(0, 0, 99978), (1, 3, 24), (0, 0, 99953), (1, 6, 24), (0, 0, 100000)], [], [((0, 0), (2, 0, 0, [3])), ((0, 1), (2, 0, 0, [0]))], [], 0, [], []), (112, [(0, (2, 0, 0, [6])), (1, (0, 2, 24, [])), (2, (0, 0, 16777215, [])), (3, (0, 1, 23, [])), (4, (0, 0, 16777215, [])), (5, (0, -1000000, 2147483647, [])), (6, (0, 0, 24, []))], [], (0, 0), [(0, 0, 99978), (1, 3, 24), (0, 0, 99888), (1, 6, 24), (0, 0, 100000)], [], [((0, 0), (2, 0, 0, [3])), ((0, 1), (2, 0, 0, [0]))], [], 0, [], [])]
def t_Pl_placeSideBySide_ct : ct_L := [(1, 145, e_Pl_edgeOfLevel), (297, 150, e_jMath_max1_v20)]
set_option maxRecDepth 100000 in
theorem c_Pl_placeSideBySide {l : Launch} {D : va_G} {kA : Nat → ClassId} (h_Pl_edgeOfLevel : ct_ok l D kA GG y_Pl_edgeOfLevel z_Pl_edgeOfLevel e_Pl_edgeOfLevel) : ct_ok l D kA GG y_Pl_placeSideBySide z_Pl_placeSideBySide e_Pl_placeSideBySide := chk_all_ok (FT := [(9, 6, 0), (15, 6, 1), (32, 6, 6), (35, 6, 7), (74, 3, 0), (127, 0, 2)]) (PT := []) (CT := t_Pl_placeSideBySide_ct) (KT := [(0, 144, .int (Int32.ofInt (-1000000)), (0, -1000000, -1000000, [])), (0, 149, .int (Int32.ofInt (-2147483648)), (0, -2147483648, -2147483648, []))]) (NT := []) (AN := n_Pl_placeSideBySide_an) (OT := []) 5 404 (List.forall_mem_nil _) (by decide +kernel) ⟨List.forall_mem_cons.mpr ⟨gf_Pl_9, List.forall_mem_cons.mpr ⟨gf_Pl_15, List.forall_mem_cons.mpr ⟨gf_Pl_32, List.forall_mem_cons.mpr ⟨gf_Pl_35, List.forall_mem_cons.mpr ⟨gf_Pl_74, List.forall_mem_cons.mpr ⟨gf_Pl_127, List.forall_mem_nil _⟩⟩⟩⟩⟩⟩, List.forall_mem_nil _, List.forall_mem_cons.mpr ⟨cl_virtual (y := y_Pl_edgeOfLevel) (ci := 6) rfl rfl ⟨_, _, rfl⟩ (by decide +kernel) h_Pl_edgeOfLevel wm_1712 wm_21 wm_1709 wm_1711 wv_7_11 ⟨by decide, by decide, by decide +kernel⟩ (by decide), List.forall_mem_cons.mpr ⟨cl_static (y := y_jMath_max1) c_jMath_max1_v20 wm_836 wm_10 wm_1714 wm_835 ⟨by decide, by decide, by decide +kernel⟩ (by decide), List.forall_mem_nil _⟩⟩, List.forall_mem_cons.mpr ⟨kx_Pl_0_144, List.forall_mem_cons.mpr ⟨kx_Pl_0_149, List.forall_mem_nil _⟩⟩, List.forall_mem_nil _⟩ (by decide +kernel)
def n_Pl_ringCrossings_an : List an_T := [(6, [(0, (2, 0, 0, [6])), (1, (0, 0, 16777215, [])), (2, (0, -2147483648, 2147483647, [])), (3, (0, 0, 24, []))], [], (0, 0), [(0, 0, 99994), (1, 3, 24), (0, 0, 100000)], [], [((0, 0), (2, 0, 0, [3]))], [], 0, [], [])]
def t_Pl_ringCrossings_ct : ct_L := [(1, 227, e_Pl_crossingsAt)]
set_option maxRecDepth 100000 in
theorem c_Pl_ringCrossings {l : Launch} {D : va_G} {kA : Nat → ClassId} (h_Pl_crossingsAt : ct_ok l D kA GG y_Pl_crossingsAt z_Pl_crossingsAt e_Pl_crossingsAt) : ct_ok l D kA GG y_Pl_ringCrossings z_Pl_ringCrossings e_Pl_ringCrossings := chk_all_ok (FT := [(9, 6, 0), (19, 6, 2), (74, 3, 0)]) (PT := []) (CT := t_Pl_ringCrossings_ct) (KT := []) (NT := []) (AN := n_Pl_ringCrossings_an) (OT := []) 3 200 (List.forall_mem_nil _) (by decide +kernel) ⟨List.forall_mem_cons.mpr ⟨gf_Pl_9, List.forall_mem_cons.mpr ⟨gf_Pl_19, List.forall_mem_cons.mpr ⟨gf_Pl_74, List.forall_mem_nil _⟩⟩⟩, List.forall_mem_nil _, List.forall_mem_cons.mpr ⟨cl_virtual (y := y_Pl_crossingsAt) (ci := 6) rfl rfl ⟨_, _, rfl⟩ (by decide +kernel) h_Pl_crossingsAt wm_1770 wm_21 wm_1767 wm_1769 wv_8_6 ⟨by decide, by decide, by decide +kernel⟩ (by decide), List.forall_mem_nil _⟩, List.forall_mem_nil _, List.forall_mem_nil _⟩ (by decide +kernel)
def n_Re_isNameByte_an : List an_T := []
def t_Re_isNameByte_ct : ct_L := [(0, 64, e_Re_isLetter), (0, 68, e_Re_isDigit)]
set_option maxRecDepth 100000 in
theorem c_Re_isNameByte {l : Launch} {D : va_G} {kA : Nat → ClassId} (h_Re_isDigit : ct_ok l D kA GG y_Re_isDigit z_Re_isDigit e_Re_isDigit) (h_Re_isLetter : ct_ok l D kA GG y_Re_isLetter z_Re_isLetter e_Re_isLetter) : ct_ok l D kA GG y_Re_isNameByte z_Re_isNameByte e_Re_isNameByte := chk_all_ok (FT := []) (PT := []) (CT := t_Re_isNameByte_ct) (KT := []) (NT := []) (AN := n_Re_isNameByte_an) (OT := []) 0 200 (List.forall_mem_nil _) (by decide +kernel) ⟨List.forall_mem_nil _, List.forall_mem_nil _, List.forall_mem_cons.mpr ⟨cl_static (y := y_Re_isLetter) h_Re_isLetter wm_648 wm_2 wm_646 wm_647 ⟨by decide, by decide, by decide +kernel⟩ (by decide), List.forall_mem_cons.mpr ⟨cl_static (y := y_Re_isDigit) h_Re_isDigit wm_654 wm_2 wm_652 wm_653 ⟨by decide, by decide, by decide +kernel⟩ (by decide), List.forall_mem_nil _⟩⟩, List.forall_mem_nil _, List.forall_mem_nil _⟩ (by decide +kernel)
def n_Sy_lookAtEdge_an : List an_T := []
def t_Sy_lookAtEdge_ct : ct_L := [(1, 241, e_Fa_isBridge), (102, 231, e_jMath_abs1_v14), (156, 231, e_jMath_abs1_v14)]
set_option maxRecDepth 100000 in
theorem c_Sy_lookAtEdge {l : Launch} {D : va_G} {kA : Nat → ClassId} (h_Fa_isBridge : ct_ok l D kA GG y_Fa_isBridge z_Fa_isBridge e_Fa_isBridge) : ct_ok l D kA GG y_Sy_lookAtEdge z_Sy_lookAtEdge e_Sy_lookAtEdge := chk_all_ok (FT := [(66, 11, 16), (191, 3, 8), (194, 3, 7), (197, 0, 1), (225, 0, 2), (228, 0, 3), (234, 3, 9), (237, 2, 9), (244, 2, 5), (247, 3, 10)]) (PT := []) (CT := t_Sy_lookAtEdge_ct) (KT := []) (NT := []) (AN := n_Sy_lookAtEdge_an) (OT := []) 0 1176 (List.forall_mem_nil _) (by decide +kernel) ⟨List.forall_mem_cons.mpr ⟨gf_Sy_66, List.forall_mem_cons.mpr ⟨gf_Sy_191, List.forall_mem_cons.mpr ⟨gf_Sy_194, List.forall_mem_cons.mpr ⟨gf_Sy_197, List.forall_mem_cons.mpr ⟨gf_Sy_225, List.forall_mem_cons.mpr ⟨gf_Sy_228, List.forall_mem_cons.mpr ⟨gf_Sy_234, List.forall_mem_cons.mpr ⟨gf_Sy_237, List.forall_mem_cons.mpr ⟨gf_Sy_244, List.forall_mem_cons.mpr ⟨gf_Sy_247, List.forall_mem_nil _⟩⟩⟩⟩⟩⟩⟩⟩⟩⟩, List.forall_mem_nil _, List.forall_mem_cons.mpr ⟨cl_virtual (y := y_Fa_isBridge) (ci := 2) rfl rfl ⟨_, _, rfl⟩ (by decide +kernel) h_Fa_isBridge wm_934 wm_7 wm_2322 wm_932 wm_933 ⟨by decide, by decide, by decide +kernel⟩ (by decide), List.forall_mem_cons.mpr ⟨cl_static (y := y_jMath_abs1) c_jMath_abs1_v14 wm_1811 wm_10 wm_2321 wm_1810 ⟨by decide, by decide, by decide +kernel⟩ (by decide), List.forall_mem_cons.mpr ⟨cl_static (y := y_jMath_abs1) c_jMath_abs1_v14 wm_1811 wm_10 wm_2321 wm_1810 ⟨by decide, by decide, by decide +kernel⟩ (by decide), List.forall_mem_nil _⟩⟩⟩, List.forall_mem_nil _, List.forall_mem_nil _⟩ (by decide +kernel)
def n_Mo_bound_an : List an_T := []
def t_Mo_bound_ct : ct_L := [(0, 547, e_Mo_min), (0, 855, e_Mo_max)]
set_option maxRecDepth 100000 in
theorem c_Mo_bound {l : Launch} {D : va_G} {kA : Nat → ClassId} (h_Mo_max : ct_ok l D kA GG y_Mo_max z_Mo_max e_Mo_max) (h_Mo_min : ct_ok l D kA GG y_Mo_min z_Mo_min e_Mo_min) : ct_ok l D kA GG y_Mo_bound z_Mo_bound e_Mo_bound := chk_all_ok (FT := [(1142, 13, 153), (1145, 13, 154), (1148, 13, 155), (1151, 13, 156)]) (PT := [(1142, 13, 153, .int), (1145, 13, 154, .int), (1148, 13, 155, .int), (1151, 13, 156, .int)]) (CT := t_Mo_bound_ct) (KT := []) (NT := []) (AN := n_Mo_bound_an) (OT := []) 0 484 (List.forall_mem_nil _) (by decide +kernel) ⟨List.forall_mem_cons.mpr ⟨gf_Mo_1142, List.forall_mem_cons.mpr ⟨gf_Mo_1145, List.forall_mem_cons.mpr ⟨gf_Mo_1148, List.forall_mem_cons.mpr ⟨gf_Mo_1151, List.forall_mem_nil _⟩⟩⟩⟩, List.forall_mem_cons.mpr ⟨pf_Mo_1142, List.forall_mem_cons.mpr ⟨pf_Mo_1145, List.forall_mem_cons.mpr ⟨pf_Mo_1148, List.forall_mem_cons.mpr ⟨pf_Mo_1151, List.forall_mem_nil _⟩⟩⟩⟩, List.forall_mem_cons.mpr ⟨cl_static (y := y_Mo_min) h_Mo_min wm_3174 wm_9 wm_3172 wm_3173 ⟨by decide, by decide, by decide +kernel⟩ (by decide), List.forall_mem_cons.mpr ⟨cl_static (y := y_Mo_max) h_Mo_max wm_3430 wm_9 wm_3428 wm_3429 ⟨by decide, by decide, by decide +kernel⟩ (by decide), List.forall_mem_nil _⟩⟩, List.forall_mem_nil _, List.forall_mem_nil _⟩ (by decide +kernel)
def n_Mo_fits_an : List an_T := [(30, [(0, (2, 0, 0, [150])), (1, (0, 0, 23, [])), (2, (0, 0, 23, [])), (3, (0, 0, 1, [])), (4, (0, 0, 23, []))], [], (0, 0), [(0, 0, 99970), (1, 4, 23), (0, 0, 100000)], [], [], [], 0, [], [])]
def t_Mo_fits_ct : ct_L := [(1, 587, e_Mo_degree), (1, 590, e_Mo_edgeWay)]
set_option maxRecDepth 100000 in
theorem c_Mo_fits {l : Launch} {D : va_G} {kA : Nat → ClassId} (h_Mo_degree : ct_ok l D kA GG y_Mo_degree z_Mo_degree e_Mo_degree) (h_Mo_edgeWay : ct_ok l D kA GG y_Mo_edgeWay z_Mo_edgeWay e_Mo_edgeWay) : ct_ok l D kA GG y_Mo_fits z_Mo_fits e_Mo_fits := chk_all_ok (FT := [(54, 13, 24), (566, 13, 28), (569, 13, 29)]) (PT := []) (CT := t_Mo_fits_ct) (KT := []) (NT := []) (AN := n_Mo_fits_an) (OT := []) 3 216 (List.forall_mem_nil _) (by decide +kernel) ⟨List.forall_mem_cons.mpr ⟨gf_Mo_54, List.forall_mem_cons.mpr ⟨gf_Mo_566, List.forall_mem_cons.mpr ⟨gf_Mo_569, List.forall_mem_nil _⟩⟩⟩, List.forall_mem_nil _, List.forall_mem_cons.mpr ⟨cl_virtual (y := y_Mo_degree) (ci := 13) rfl rfl ⟨_, _, rfl⟩ (by decide +kernel) h_Mo_degree wm_3127 wm_9 wm_3124 wm_3126 wv_14_9 ⟨by decide, by decide, by decide +kernel⟩ (by decide), List.forall_mem_cons.mpr ⟨cl_virtual (y := y_Mo_edgeWay) (ci := 13) rfl rfl ⟨_, _, rfl⟩ (by decide +kernel) h_Mo_edgeWay wm_3131 wm_9 wm_3128 wm_3130 wv_14_10 ⟨by decide, by decide, by decide +kernel⟩ (by decide), List.forall_mem_nil _⟩⟩, List.forall_mem_nil _, List.forall_mem_nil _⟩ (by decide +kernel)
def n_Mo_from_an : List an_T := []
def t_Mo_from_ct : ct_L := [(1, 394, e_Mo_tail), (1, 398, e_Mo_head)]
set_option maxRecDepth 100000 in
theorem c_Mo_from {l : Launch} {D : va_G} {kA : Nat → ClassId} (h_Mo_head : ct_ok l D kA GG y_Mo_head z_Mo_head e_Mo_head) (h_Mo_tail : ct_ok l D kA GG y_Mo_tail z_Mo_tail e_Mo_tail) : ct_ok l D kA GG y_Mo_from z_Mo_from e_Mo_from := chk_all_ok (FT := [(210, 13, 95)]) (PT := []) (CT := t_Mo_from_ct) (KT := []) (NT := []) (AN := n_Mo_from_an) (OT := []) 0 200 (List.forall_mem_nil _) (by decide +kernel) ⟨List.forall_mem_cons.mpr ⟨gf_Mo_210, List.forall_mem_nil _⟩, List.forall_mem_nil _, List.forall_mem_cons.mpr ⟨cl_virtual (y := y_Mo_tail) (ci := 13) rfl rfl ⟨_, _, rfl⟩ (by decide +kernel) h_Mo_tail wm_3045 wm_9 wm_3042 wm_3044 wv_13_8 ⟨by decide, by decide, by decide +kernel⟩ (by decide), List.forall_mem_cons.mpr ⟨cl_virtual (y := y_Mo_head) (ci := 13) rfl rfl ⟨_, _, rfl⟩ (by decide +kernel) h_Mo_head wm_3049 wm_9 wm_3046 wm_3048 wv_13_9 ⟨by decide, by decide, by decide +kernel⟩ (by decide), List.forall_mem_nil _⟩⟩, List.forall_mem_nil _, List.forall_mem_nil _⟩ (by decide +kernel)
def n_Mo_halfOf_an : List an_T := []
def t_Mo_halfOf_ct : ct_L := [(1, 475, e_Mo_nodes), (1, 478, e_Mo_longOf)]
set_option maxRecDepth 100000 in
theorem c_Mo_halfOf {l : Launch} {D : va_G} {kA : Nat → ClassId} (h_Mo_longOf : ct_ok l D kA GG y_Mo_longOf z_Mo_longOf e_Mo_longOf) (h_Mo_nodes : ct_ok l D kA GG y_Mo_nodes z_Mo_nodes e_Mo_nodes) : ct_ok l D kA GG y_Mo_halfOf z_Mo_halfOf e_Mo_halfOf := chk_all_ok (FT := []) (PT := []) (CT := t_Mo_halfOf_ct) (KT := []) (NT := []) (AN := n_Mo_halfOf_an) (OT := []) 0 200 (List.forall_mem_nil _) (by decide +kernel) ⟨List.forall_mem_nil _, List.forall_mem_nil _, List.forall_mem_cons.mpr ⟨cl_virtual (y := y_Mo_nodes) (ci := 13) rfl rfl ⟨_, _, rfl⟩ (by decide +kernel) h_Mo_nodes wm_3025 wm_9 wm_3022 wm_3024 wv_13_3 ⟨by decide, by decide, by decide +kernel⟩ (by decide), List.forall_mem_cons.mpr ⟨cl_virtual (y := y_Mo_longOf) (ci := 13) rfl rfl ⟨_, _, rfl⟩ (by decide +kernel) h_Mo_longOf wm_3029 wm_9 wm_3026 wm_3028 wv_13_4 ⟨by decide, by decide, by decide +kernel⟩ (by decide), List.forall_mem_nil _⟩⟩, List.forall_mem_nil _, List.forall_mem_nil _⟩ (by decide +kernel)
def n_Mo_has_an : List an_T := []
def t_Mo_has_ct : ct_L := [(1, 394, e_Mo_tail), (1, 398, e_Mo_head)]
set_option maxRecDepth 100000 in
theorem c_Mo_has {l : Launch} {D : va_G} {kA : Nat → ClassId} (h_Mo_head : ct_ok l D kA GG y_Mo_head z_Mo_head e_Mo_head) (h_Mo_tail : ct_ok l D kA GG y_Mo_tail z_Mo_tail e_Mo_tail) : ct_ok l D kA GG y_Mo_has z_Mo_has e_Mo_has := chk_all_ok (FT := []) (PT := []) (CT := t_Mo_has_ct) (KT := []) (NT := []) (AN := n_Mo_has_an) (OT := []) 0 200 (List.forall_mem_nil _) (by decide +kernel) ⟨List.forall_mem_nil _, List.forall_mem_nil _, List.forall_mem_cons.mpr ⟨cl_virtual (y := y_Mo_tail) (ci := 13) rfl rfl ⟨_, _, rfl⟩ (by decide +kernel) h_Mo_tail wm_3045 wm_9 wm_3042 wm_3044 wv_13_8 ⟨by decide, by decide, by decide +kernel⟩ (by decide), List.forall_mem_cons.mpr ⟨cl_virtual (y := y_Mo_head) (ci := 13) rfl rfl ⟨_, _, rfl⟩ (by decide +kernel) h_Mo_head wm_3049 wm_9 wm_3046 wm_3048 wv_13_9 ⟨by decide, by decide, by decide +kernel⟩ (by decide), List.forall_mem_nil _⟩⟩, List.forall_mem_nil _, List.forall_mem_nil _⟩ (by decide +kernel)
def n_Mo_keep_an : List an_T := [(9, [(0, (2, 0, 0, [150])), (1, (0, 0, 3, [])), (2, (0, 0, 7, [])), (3, (0, 0, 24, []))], [], (0, 0), [(0, 0, 99991), (1, 3, 24), (0, 0, 100000), (0, 0, 0), (0, 0, 0)], [], [], [], 0, [], []), (59, [(0, (2, 0, 0, [150])), (1, (0, 0, 3, [])), (2, (0, 0, 7, [])), (3, (0, 0, 48, []))], [], (0, 0), [(0, 0, 99941), (1, 3, 48), (0, 0, 100000), (0, 0, 0), (0, 0, 0)], [], [], [], 0, [], []), (87, [(0, (2, 0, 0, [150])), (1, (0, 0, 3, [])), (2, (0, 0, 7, [])), (3, (0, 0, 47, [])), (4, (0, 0, 24, []))], [], (0, 0), [(0, 0, 99941), (1, 3, 48), (0, 0, 99913), (1, 4, 24), (0, 0, 100000)], [], [], [], 0, [], [])]
def t_Mo_keep_ct : ct_L := [(1, 401, e_Mo_edges), (1, 475, e_Mo_nodes)]
set_option maxRecDepth 100000 in
theorem c_Mo_keep {l : Launch} {D : va_G} {kA : Nat → ClassId} (h_Mo_edges : ct_ok l D kA GG y_Mo_edges z_Mo_edges e_Mo_edges) (h_Mo_nodes : ct_ok l D kA GG y_Mo_nodes z_Mo_nodes e_Mo_nodes) : ct_ok l D kA GG y_Mo_keep z_Mo_keep e_Mo_keep := chk_all_ok (FT := [(120, 13, 61), (123, 13, 62), (126, 13, 63), (129, 13, 64), (132, 13, 65), (135, 13, 66), (159, 13, 74), (162, 13, 75), (165, 13, 76), (168, 13, 77), (171, 13, 78)]) (PT := []) (CT := t_Mo_keep_ct) (KT := []) (NT := []) (AN := n_Mo_keep_an) (OT := []) 5 432 (List.forall_mem_nil _) (by decide +kernel) ⟨List.forall_mem_cons.mpr ⟨gf_Mo_120, List.forall_mem_cons.mpr ⟨gf_Mo_123, List.forall_mem_cons.mpr ⟨gf_Mo_126, List.forall_mem_cons.mpr ⟨gf_Mo_129, List.forall_mem_cons.mpr ⟨gf_Mo_132, List.forall_mem_cons.mpr ⟨gf_Mo_135, List.forall_mem_cons.mpr ⟨gf_Mo_159, List.forall_mem_cons.mpr ⟨gf_Mo_162, List.forall_mem_cons.mpr ⟨gf_Mo_165, List.forall_mem_cons.mpr ⟨gf_Mo_168, List.forall_mem_cons.mpr ⟨gf_Mo_171, List.forall_mem_nil _⟩⟩⟩⟩⟩⟩⟩⟩⟩⟩⟩, List.forall_mem_nil _, List.forall_mem_cons.mpr ⟨cl_virtual (y := y_Mo_edges) (ci := 13) rfl rfl ⟨_, _, rfl⟩ (by decide +kernel) h_Mo_edges wm_3037 wm_9 wm_3034 wm_3036 wv_13_6 ⟨by decide, by decide, by decide +kernel⟩ (by decide), List.forall_mem_cons.mpr ⟨cl_virtual (y := y_Mo_nodes) (ci := 13) rfl rfl ⟨_, _, rfl⟩ (by decide +kernel) h_Mo_nodes wm_3025 wm_9 wm_3022 wm_3024 wv_13_3 ⟨by decide, by decide, by decide +kernel⟩ (by decide), List.forall_mem_nil _⟩⟩, List.forall_mem_nil _, List.forall_mem_nil _⟩ (by decide +kernel)
def n_Mo_mayLeave_an : List an_T := [(9, [(0, (2, 0, 0, [150])), (1, (0, 1, 28, [])), (2, (0, 0, 24, [])), (3, (0, 0, 30, []))], [], (0, 0), [(0, 0, 99991), (1, 3, 30), (0, 0, 100000)], [], [], [], 0, [], [])]
def t_Mo_mayLeave_ct : ct_L := [(1, 646, e_Mo_edgeOf)]
set_option maxRecDepth 100000 in
theorem c_Mo_mayLeave {l : Launch} {D : va_G} {kA : Nat → ClassId} (h_Mo_edgeOf : ct_ok l D kA GG y_Mo_edgeOf z_Mo_edgeOf e_Mo_edgeOf) : ct_ok l D kA GG y_Mo_mayLeave z_Mo_mayLeave e_Mo_mayLeave := chk_all_ok (FT := [(278, 13, 122), (904, 13, 121)]) (PT := []) (CT := t_Mo_mayLeave_ct) (KT := []) (NT := []) (AN := n_Mo_mayLeave_an) (OT := []) 3 200 (List.forall_mem_nil _) (by decide +kernel) ⟨List.forall_mem_cons.mpr ⟨gf_Mo_278, List.forall_mem_cons.mpr ⟨gf_Mo_904, List.forall_mem_nil _⟩⟩, List.forall_mem_nil _, List.forall_mem_cons.mpr ⟨cl_virtual (y := y_Mo_edgeOf) (ci := 13) rfl rfl ⟨_, _, rfl⟩ (by decide +kernel) h_Mo_edgeOf wm_3195 wm_9 wm_3192 wm_3194 wv_15_7 ⟨by decide, by decide, by decide +kernel⟩ (by decide), List.forall_mem_nil _⟩, List.forall_mem_nil _, List.forall_mem_nil _⟩ (by decide +kernel)
def n_Mo_other_an : List an_T := []
def t_Mo_other_ct : ct_L := [(1, 394, e_Mo_tail), (1, 398, e_Mo_head)]
set_option maxRecDepth 100000 in
theorem c_Mo_other {l : Launch} {D : va_G} {kA : Nat → ClassId} (h_Mo_head : ct_ok l D kA GG y_Mo_head z_Mo_head e_Mo_head) (h_Mo_tail : ct_ok l D kA GG y_Mo_tail z_Mo_tail e_Mo_tail) : ct_ok l D kA GG y_Mo_other z_Mo_other e_Mo_other := chk_all_ok (FT := []) (PT := []) (CT := t_Mo_other_ct) (KT := []) (NT := []) (AN := n_Mo_other_an) (OT := []) 0 200 (List.forall_mem_nil _) (by decide +kernel) ⟨List.forall_mem_nil _, List.forall_mem_nil _, List.forall_mem_cons.mpr ⟨cl_virtual (y := y_Mo_tail) (ci := 13) rfl rfl ⟨_, _, rfl⟩ (by decide +kernel) h_Mo_tail wm_3045 wm_9 wm_3042 wm_3044 wv_13_8 ⟨by decide, by decide, by decide +kernel⟩ (by decide), List.forall_mem_cons.mpr ⟨cl_virtual (y := y_Mo_head) (ci := 13) rfl rfl ⟨_, _, rfl⟩ (by decide +kernel) h_Mo_head wm_3049 wm_9 wm_3046 wm_3048 wv_13_9 ⟨by decide, by decide, by decide +kernel⟩ (by decide), List.forall_mem_nil _⟩⟩, List.forall_mem_nil _, List.forall_mem_nil _⟩ (by decide +kernel)
def o_Mo_pieces_0 : or_T := (38, 4, [(0, (2, 0, 0, [150])), (3, (0, 1, 1, []))], [], [], [(0, 0, 12801, [])], [(20, [4, 0, 3], [1, 44, 80, 160, 2])], [], [])
theorem oo_Mo_pieces_0 {kA : Nat → ClassId} : or_ok kA GG o_Mo_pieces_0 := by
  intro A ta ws vs hD hth hl hk hds hf
  have hl : vs.length = 4 := hl
  have hk : ∀ q ∈ ([(0, (2, 0, 0, [150])), (3, (0, 1, 1, []))] : List (Nat × tv_T)), tv_ok ta q.2 (n_v vs q.1) := hk
  obtain ⟨t0, hk⟩ := List.forall_mem_cons.mp hk
  have t0 : tv_ok ta (2, 0, 0, [150]) (n_v vs 0) := t0
  have r0 : ta (v_ad (n_v vs 0)) = some 150 := tv_rg t0
  obtain ⟨t3, hk⟩ := List.forall_mem_cons.mp hk
  have t3 : tv_ok ta (0, 1, 1, []) (n_v vs 3) := t3
  have k3 : 1 ≤ v_iv (n_v vs 3) ∧ v_iv (n_v vs 3) ≤ 1 := tv_rng t3
  have ra : ta (w_ar ws (n_v vs 0) 44) = some 175 := tv_rg (th_fd hD hth r0 (g := GG_150) rfl (k := 44) (t := (2, 0, 0, [175])) rfl rfl)
  have bs := sum_bd (ws := ws) (a := w_ar ws (n_v vs 0) 44) (lo := (-1)) (hi := 79) (n := 80) (fun j hj => th_el hD hth ra (kd := 0) (n := 80) (m := 80) (rs := []) (L := []) rfl (by decide) (by omega))
  obtain ⟨x, ex, hx⟩ := iv_ex (ta := ta) (lo := 0) (hi := 12801) (z := 160 + 2 * w_sum ws (w_ar ws (n_v vs 0) 44) 80 + v_iv (n_v vs 3)) (by omega) (by omega) (by decide) (by decide)
  have ex2 : v_iv (Value.int x) = 160 + 2 * w_sum ws (w_ar ws (n_v vs 0) 44) 80 + v_iv (n_v vs 3) := ex
  have e_0 : n_v (vs ++ [Value.int x]) 0 = n_v vs 0 := n_v_old (by rw [hl]; decide)
  have e_3 : n_v (vs ++ [Value.int x]) 3 = n_v vs 3 := n_v_old (by rw [hl]; decide)
  have e_4 : n_v (vs ++ [Value.int x]) 4 = Value.int x := n_v_new hl
  have nf0 : fc_1 (20, [4, 0, 3], [1, 44, 80, 160, 2]) ws (vs ++ [Value.int x]) := by
    refine ⟨fun n hn => ?_, ?_⟩
    · have hn : n ∈ [4, 0, 3] := hn
      rw [List.length_append, hl]
      simp only [List.mem_cons, List.not_mem_nil, or_false] at hn
      show n < 4 + 1; omega
    · show v_iv (n_v (vs ++ [Value.int x]) 4) = 160 + 2 * w_sum ws (w_ar ws (n_v (vs ++ [Value.int x]) 0) 44) 80 + v_iv (n_v (vs ++ [Value.int x]) 3)
      rw [e_0]
      rw [e_3]
      rw [e_4]
      omega
  exact ⟨fun q hq => (by cases hq), [Value.int x], ag_one hx, List.forall_mem_cons.mpr ⟨⟨by decide, nf0⟩, (fun _ h => (by cases h))⟩, (fun _ h => (by cases h))⟩
def o_Mo_pieces_1 : or_T := (46, 5, [(0, (2, 0, 0, [150])), (1, (0, 1, 1, [])), (2, (0, 0, 12801, [])), (3, (0, 0, 0, []))], [(20, [2, 0, 1], [1, 44, 80, 160, 2])], [], [(0, 0, 12801, [])], [(20, [5, 0, 3], [2, 44, 80, 160, 2])], [(5, 2, 0, 0)], [])
theorem oo_Mo_pieces_1 {kA : Nat → ClassId} : or_ok kA GG o_Mo_pieces_1 := by
  intro A ta ws vs hD hth hl hk hds hf
  have hl : vs.length = 5 := hl
  have hk : ∀ q ∈ ([(0, (2, 0, 0, [150])), (1, (0, 1, 1, [])), (2, (0, 0, 12801, [])), (3, (0, 0, 0, []))] : List (Nat × tv_T)), tv_ok ta q.2 (n_v vs q.1) := hk
  obtain ⟨t0, hk⟩ := List.forall_mem_cons.mp hk
  have t0 : tv_ok ta (2, 0, 0, [150]) (n_v vs 0) := t0
  have r0 : ta (v_ad (n_v vs 0)) = some 150 := tv_rg t0
  obtain ⟨t1, hk⟩ := List.forall_mem_cons.mp hk
  have t1 : tv_ok ta (0, 1, 1, []) (n_v vs 1) := t1
  have k1 : 1 ≤ v_iv (n_v vs 1) ∧ v_iv (n_v vs 1) ≤ 1 := tv_rng t1
  obtain ⟨t2, hk⟩ := List.forall_mem_cons.mp hk
  have t2 : tv_ok ta (0, 0, 12801, []) (n_v vs 2) := t2
  have k2 : 0 ≤ v_iv (n_v vs 2) ∧ v_iv (n_v vs 2) ≤ 12801 := tv_rng t2
  obtain ⟨t3, hk⟩ := List.forall_mem_cons.mp hk
  have t3 : tv_ok ta (0, 0, 0, []) (n_v vs 3) := t3
  have k3 : 0 ≤ v_iv (n_v vs 3) ∧ v_iv (n_v vs 3) ≤ 0 := tv_rng t3
  have hf : fc_ok [(20, [2, 0, 1], [1, 44, 80, 160, 2])] ta ws vs := hf
  obtain ⟨f0, hf⟩ := fc_un (by decide) hf
  have f0 : v_iv (n_v vs 2) = 160 + 2 * w_sum ws (w_ar ws (n_v vs 0) 44) 80 + v_iv (n_v vs 1) := f0
  have key : 160 + 2 * w_sum ws (w_ar ws (n_v vs 0) 44) 80 + v_iv (n_v vs 3) + 1 ≤ v_iv (n_v vs 2) := by omega
  obtain ⟨x, ex, hx⟩ := iv_ex (ta := ta) (lo := 0) (hi := 12801) (z := v_iv (n_v vs 2)) (by omega) (by omega) (by decide) (by decide)
  have ex2 : v_iv (Value.int x) = v_iv (n_v vs 2) := ex
  have e_0 : n_v (vs ++ [Value.int x]) 0 = n_v vs 0 := n_v_old (by rw [hl]; decide)
  have e_3 : n_v (vs ++ [Value.int x]) 3 = n_v vs 3 := n_v_old (by rw [hl]; decide)
  have e_5 : n_v (vs ++ [Value.int x]) 5 = Value.int x := n_v_new hl
  have nf0 : fc_1 (20, [5, 0, 3], [2, 44, 80, 160, 2]) ws (vs ++ [Value.int x]) := by
    refine ⟨fun n hn => ?_, ?_⟩
    · have hn : n ∈ [5, 0, 3] := hn
      rw [List.length_append, hl]
      simp only [List.mem_cons, List.not_mem_nil, or_false] at hn
      show n < 5 + 1; omega
    · show 160 + 2 * w_sum ws (w_ar ws (n_v (vs ++ [Value.int x]) 0) 44) 80 + v_iv (n_v (vs ++ [Value.int x]) 3) + 1 ≤ v_iv (n_v (vs ++ [Value.int x]) 5)
      rw [e_0]
      rw [e_3]
      rw [e_5]
      omega
  obtain ⟨x0, e0, _, _⟩ := tv_int t2 rfl
  have e1 : v_iv (n_v vs 2) = x0.toInt := by rw [e0]; rfl
  have ho : sy_ofs (vs ++ [Value.int x]) (5, 2, 0, 0) := by
    refine ⟨x, x0, by rw [List.getElem?_append_right (by rw [hl]; decide), hl]; rfl, ?_, ?_, ?_⟩
    · rw [List.getElem?_append_left (by rw [hl]; decide)]; exact n_v_some (by rw [hl]; decide) e0
    · show x0.toInt + 0 ≤ x.toInt; omega
    · show x.toInt ≤ x0.toInt + 0; omega
  exact ⟨fun q hq => (by cases hq), [Value.int x], ag_one hx, List.forall_mem_cons.mpr ⟨⟨by decide, nf0⟩, (fun _ h => (by cases h))⟩, List.forall_mem_cons.mpr ⟨ho, (fun _ h => (by cases h))⟩⟩
def o_Mo_pieces_2 : or_T := (38, 5, [(0, (2, 0, 0, [150])), (1, (0, 0, 1, [])), (3, (0, 0, 12801, []))], [(20, [3, 0, 1], [2, 44, 80, 160, 2])], [], [(0, 0, 12801, [])], [(20, [5, 0, 1], [1, 44, 80, 160, 2])], [(5, 3, -1000000000000, -1)], [])
theorem oo_Mo_pieces_2 {kA : Nat → ClassId} : or_ok kA GG o_Mo_pieces_2 := by
  intro A ta ws vs hD hth hl hk hds hf
  have hl : vs.length = 5 := hl
  have hk : ∀ q ∈ ([(0, (2, 0, 0, [150])), (1, (0, 0, 1, [])), (3, (0, 0, 12801, []))] : List (Nat × tv_T)), tv_ok ta q.2 (n_v vs q.1) := hk
  obtain ⟨t0, hk⟩ := List.forall_mem_cons.mp hk
  have t0 : tv_ok ta (2, 0, 0, [150]) (n_v vs 0) := t0
  have r0 : ta (v_ad (n_v vs 0)) = some 150 := tv_rg t0
  obtain ⟨t1, hk⟩ := List.forall_mem_cons.mp hk
  have t1 : tv_ok ta (0, 0, 1, []) (n_v vs 1) := t1
  have k1 : 0 ≤ v_iv (n_v vs 1) ∧ v_iv (n_v vs 1) ≤ 1 := tv_rng t1
  obtain ⟨t3, hk⟩ := List.forall_mem_cons.mp hk
  have t3 : tv_ok ta (0, 0, 12801, []) (n_v vs 3) := t3
  have k3 : 0 ≤ v_iv (n_v vs 3) ∧ v_iv (n_v vs 3) ≤ 12801 := tv_rng t3
  have hf : fc_ok [(20, [3, 0, 1], [2, 44, 80, 160, 2])] ta ws vs := hf
  obtain ⟨f0, hf⟩ := fc_un (by decide) hf
  have f0 : 160 + 2 * w_sum ws (w_ar ws (n_v vs 0) 44) 80 + v_iv (n_v vs 1) + 1 ≤ v_iv (n_v vs 3) := f0
  have ra : ta (w_ar ws (n_v vs 0) 44) = some 175 := tv_rg (th_fd hD hth r0 (g := GG_150) rfl (k := 44) (t := (2, 0, 0, [175])) rfl rfl)
  have bs := sum_bd (ws := ws) (a := w_ar ws (n_v vs 0) 44) (lo := (-1)) (hi := 79) (n := 80) (fun j hj => th_el hD hth ra (kd := 0) (n := 80) (m := 80) (rs := []) (L := []) rfl (by decide) (by omega))
  obtain ⟨x, ex, hx⟩ := iv_ex (ta := ta) (lo := 0) (hi := 12801) (z := 160 + 2 * w_sum ws (w_ar ws (n_v vs 0) 44) 80 + v_iv (n_v vs 1)) (by omega) (by omega) (by decide) (by decide)
  have ex2 : v_iv (Value.int x) = 160 + 2 * w_sum ws (w_ar ws (n_v vs 0) 44) 80 + v_iv (n_v vs 1) := ex
  have e_0 : n_v (vs ++ [Value.int x]) 0 = n_v vs 0 := n_v_old (by rw [hl]; decide)
  have e_1 : n_v (vs ++ [Value.int x]) 1 = n_v vs 1 := n_v_old (by rw [hl]; decide)
  have e_5 : n_v (vs ++ [Value.int x]) 5 = Value.int x := n_v_new hl
  have nf0 : fc_1 (20, [5, 0, 1], [1, 44, 80, 160, 2]) ws (vs ++ [Value.int x]) := by
    refine ⟨fun n hn => ?_, ?_⟩
    · have hn : n ∈ [5, 0, 1] := hn
      rw [List.length_append, hl]
      simp only [List.mem_cons, List.not_mem_nil, or_false] at hn
      show n < 5 + 1; omega
    · show v_iv (n_v (vs ++ [Value.int x]) 5) = 160 + 2 * w_sum ws (w_ar ws (n_v (vs ++ [Value.int x]) 0) 44) 80 + v_iv (n_v (vs ++ [Value.int x]) 1)
      rw [e_0]
      rw [e_1]
      rw [e_5]
      omega
  obtain ⟨x0, e0, _, _⟩ := tv_int t3 rfl
  have e1 : v_iv (n_v vs 3) = x0.toInt := by rw [e0]; rfl
  have ho : sy_ofs (vs ++ [Value.int x]) (5, 3, -1000000000000, -1) := by
    refine ⟨x, x0, by rw [List.getElem?_append_right (by rw [hl]; decide), hl]; rfl, ?_, ?_, ?_⟩
    · rw [List.getElem?_append_left (by rw [hl]; decide)]; exact n_v_some (by rw [hl]; decide) e0
    · show x0.toInt + (-1000000000000) ≤ x.toInt; omega
    · show x.toInt ≤ x0.toInt + (-1); omega
  exact ⟨fun q hq => (by cases hq), [Value.int x], ag_one hx, List.forall_mem_cons.mpr ⟨⟨by decide, nf0⟩, (fun _ h => (by cases h))⟩, List.forall_mem_cons.mpr ⟨ho, (fun _ h => (by cases h))⟩⟩
def o_Mo_pieces_3 : or_T := (56, 6, [(0, (2, 0, 0, [150])), (1, (0, 0, 1, [])), (3, (0, 0, 12801, []))], [(20, [3, 0, 1], [2, 44, 80, 160, 2])], [], [(0, 0, 12801, [])], [(20, [6, 0, 1], [2, 44, 80, 160, 2])], [(6, 3, 0, 0)], [])
theorem oo_Mo_pieces_3 {kA : Nat → ClassId} : or_ok kA GG o_Mo_pieces_3 := by
  intro A ta ws vs hD hth hl hk hds hf
  have hl : vs.length = 6 := hl
  have hk : ∀ q ∈ ([(0, (2, 0, 0, [150])), (1, (0, 0, 1, [])), (3, (0, 0, 12801, []))] : List (Nat × tv_T)), tv_ok ta q.2 (n_v vs q.1) := hk
  obtain ⟨t0, hk⟩ := List.forall_mem_cons.mp hk
  have t0 : tv_ok ta (2, 0, 0, [150]) (n_v vs 0) := t0
  have r0 : ta (v_ad (n_v vs 0)) = some 150 := tv_rg t0
  obtain ⟨t1, hk⟩ := List.forall_mem_cons.mp hk
  have t1 : tv_ok ta (0, 0, 1, []) (n_v vs 1) := t1
  have k1 : 0 ≤ v_iv (n_v vs 1) ∧ v_iv (n_v vs 1) ≤ 1 := tv_rng t1
  obtain ⟨t3, hk⟩ := List.forall_mem_cons.mp hk
  have t3 : tv_ok ta (0, 0, 12801, []) (n_v vs 3) := t3
  have k3 : 0 ≤ v_iv (n_v vs 3) ∧ v_iv (n_v vs 3) ≤ 12801 := tv_rng t3
  have hf : fc_ok [(20, [3, 0, 1], [2, 44, 80, 160, 2])] ta ws vs := hf
  obtain ⟨f0, hf⟩ := fc_un (by decide) hf
  have f0 : 160 + 2 * w_sum ws (w_ar ws (n_v vs 0) 44) 80 + v_iv (n_v vs 1) + 1 ≤ v_iv (n_v vs 3) := f0
  have key : 160 + 2 * w_sum ws (w_ar ws (n_v vs 0) 44) 80 + v_iv (n_v vs 1) + 1 ≤ v_iv (n_v vs 3) := by omega
  obtain ⟨x, ex, hx⟩ := iv_ex (ta := ta) (lo := 0) (hi := 12801) (z := v_iv (n_v vs 3)) (by omega) (by omega) (by decide) (by decide)
  have ex2 : v_iv (Value.int x) = v_iv (n_v vs 3) := ex
  have e_0 : n_v (vs ++ [Value.int x]) 0 = n_v vs 0 := n_v_old (by rw [hl]; decide)
  have e_1 : n_v (vs ++ [Value.int x]) 1 = n_v vs 1 := n_v_old (by rw [hl]; decide)
  have e_6 : n_v (vs ++ [Value.int x]) 6 = Value.int x := n_v_new hl
  have nf0 : fc_1 (20, [6, 0, 1], [2, 44, 80, 160, 2]) ws (vs ++ [Value.int x]) := by
    refine ⟨fun n hn => ?_, ?_⟩
    · have hn : n ∈ [6, 0, 1] := hn
      rw [List.length_append, hl]
      simp only [List.mem_cons, List.not_mem_nil, or_false] at hn
      show n < 6 + 1; omega
    · show 160 + 2 * w_sum ws (w_ar ws (n_v (vs ++ [Value.int x]) 0) 44) 80 + v_iv (n_v (vs ++ [Value.int x]) 1) + 1 ≤ v_iv (n_v (vs ++ [Value.int x]) 6)
      rw [e_0]
      rw [e_1]
      rw [e_6]
      omega
  obtain ⟨x0, e0, _, _⟩ := tv_int t3 rfl
  have e1 : v_iv (n_v vs 3) = x0.toInt := by rw [e0]; rfl
  have ho : sy_ofs (vs ++ [Value.int x]) (6, 3, 0, 0) := by
    refine ⟨x, x0, by rw [List.getElem?_append_right (by rw [hl]; decide), hl]; rfl, ?_, ?_, ?_⟩
    · rw [List.getElem?_append_left (by rw [hl]; decide)]; exact n_v_some (by rw [hl]; decide) e0
    · show x0.toInt + 0 ≤ x.toInt; omega
    · show x.toInt ≤ x0.toInt + 0; omega
  exact ⟨fun q hq => (by cases hq), [Value.int x], ag_one hx, List.forall_mem_cons.mpr ⟨⟨by decide, nf0⟩, (fun _ h => (by cases h))⟩, List.forall_mem_cons.mpr ⟨ho, (fun _ h => (by cases h))⟩⟩
def o_Mo_pieces_4 : or_T := (46, 6, [(0, (2, 0, 0, [150])), (1, (0, 0, 1, [])), (4, (0, 0, 12801, []))], [(20, [4, 0, 1], [2, 44, 80, 160, 2])], [], [(0, 0, 12801, [])], [(20, [6, 0, 1], [2, 44, 80, 160, 2])], [(6, 4, 0, 0)], [])
theorem oo_Mo_pieces_4 {kA : Nat → ClassId} : or_ok kA GG o_Mo_pieces_4 := by
  intro A ta ws vs hD hth hl hk hds hf
  have hl : vs.length = 6 := hl
  have hk : ∀ q ∈ ([(0, (2, 0, 0, [150])), (1, (0, 0, 1, [])), (4, (0, 0, 12801, []))] : List (Nat × tv_T)), tv_ok ta q.2 (n_v vs q.1) := hk
  obtain ⟨t0, hk⟩ := List.forall_mem_cons.mp hk
  have t0 : tv_ok ta (2, 0, 0, [150]) (n_v vs 0) := t0
  have r0 : ta (v_ad (n_v vs 0)) = some 150 := tv_rg t0
  obtain ⟨t1, hk⟩ := List.forall_mem_cons.mp hk
  have t1 : tv_ok ta (0, 0, 1, []) (n_v vs 1) := t1
  have k1 : 0 ≤ v_iv (n_v vs 1) ∧ v_iv (n_v vs 1) ≤ 1 := tv_rng t1
  obtain ⟨t4, hk⟩ := List.forall_mem_cons.mp hk
  have t4 : tv_ok ta (0, 0, 12801, []) (n_v vs 4) := t4
  have k4 : 0 ≤ v_iv (n_v vs 4) ∧ v_iv (n_v vs 4) ≤ 12801 := tv_rng t4
  have hf : fc_ok [(20, [4, 0, 1], [2, 44, 80, 160, 2])] ta ws vs := hf
  obtain ⟨f0, hf⟩ := fc_un (by decide) hf
  have f0 : 160 + 2 * w_sum ws (w_ar ws (n_v vs 0) 44) 80 + v_iv (n_v vs 1) + 1 ≤ v_iv (n_v vs 4) := f0
  have key : 160 + 2 * w_sum ws (w_ar ws (n_v vs 0) 44) 80 + v_iv (n_v vs 1) + 1 ≤ v_iv (n_v vs 4) := by omega
  obtain ⟨x, ex, hx⟩ := iv_ex (ta := ta) (lo := 0) (hi := 12801) (z := v_iv (n_v vs 4)) (by omega) (by omega) (by decide) (by decide)
  have ex2 : v_iv (Value.int x) = v_iv (n_v vs 4) := ex
  have e_0 : n_v (vs ++ [Value.int x]) 0 = n_v vs 0 := n_v_old (by rw [hl]; decide)
  have e_1 : n_v (vs ++ [Value.int x]) 1 = n_v vs 1 := n_v_old (by rw [hl]; decide)
  have e_6 : n_v (vs ++ [Value.int x]) 6 = Value.int x := n_v_new hl
  have nf0 : fc_1 (20, [6, 0, 1], [2, 44, 80, 160, 2]) ws (vs ++ [Value.int x]) := by
    refine ⟨fun n hn => ?_, ?_⟩
    · have hn : n ∈ [6, 0, 1] := hn
      rw [List.length_append, hl]
      simp only [List.mem_cons, List.not_mem_nil, or_false] at hn
      show n < 6 + 1; omega
    · show 160 + 2 * w_sum ws (w_ar ws (n_v (vs ++ [Value.int x]) 0) 44) 80 + v_iv (n_v (vs ++ [Value.int x]) 1) + 1 ≤ v_iv (n_v (vs ++ [Value.int x]) 6)
      rw [e_0]
      rw [e_1]
      rw [e_6]
      omega
  obtain ⟨x0, e0, _, _⟩ := tv_int t4 rfl
  have e1 : v_iv (n_v vs 4) = x0.toInt := by rw [e0]; rfl
  have ho : sy_ofs (vs ++ [Value.int x]) (6, 4, 0, 0) := by
    refine ⟨x, x0, by rw [List.getElem?_append_right (by rw [hl]; decide), hl]; rfl, ?_, ?_, ?_⟩
    · rw [List.getElem?_append_left (by rw [hl]; decide)]; exact n_v_some (by rw [hl]; decide) e0
    · show x0.toInt + 0 ≤ x.toInt; omega
    · show x.toInt ≤ x0.toInt + 0; omega
  exact ⟨fun q hq => (by cases hq), [Value.int x], ag_one hx, List.forall_mem_cons.mpr ⟨⟨by decide, nf0⟩, (fun _ h => (by cases h))⟩, List.forall_mem_cons.mpr ⟨ho, (fun _ h => (by cases h))⟩⟩
def o_Mo_pieces_5 : or_T := (56, 16, [(0, (2, 0, 0, [150])), (1, (0, 0, 1, [])), (2, (0, 1, 79, [])), (3, (0, 0, 78, [])), (4, (0, 0, 12801, [])), (8, (2, 0, 0, [175])), (9, (0, -1, 79, [])), (10, (0, -1, 79, [])), (12, (0, -1, 79, [])), (13, (0, -1, 79, [])), (14, (0, 1, 1, []))], [(100, [8, 3, 13], []), (9, [8, 0], [44]), (100, [8, 2, 13], []), (9, [8, 0], [44]), (7, [13, 12], [5]), (7, [13, 13], [5]), (10, [13, 8, 3], []), (9, [8, 0], [44]), (10, [12, 8, 2], []), (9, [8, 0], [44]), (7, [9, 10], [1]), (10, [10, 8, 3], []), (9, [8, 0], [44]), (10, [9, 8, 2], []), (9, [8, 0], [44]), (20, [4, 0, 1], [2, 44, 80, 160, 2])], [], [], [(20, [4, 0, 14], [2, 44, 80, 160, 2])], [], [])
theorem oo_Mo_pieces_5 {kA : Nat → ClassId} : or_ok kA GG o_Mo_pieces_5 := by
  intro A ta ws vs hD hth hl hk hds hf
  have hl : vs.length = 16 := hl
  have hk : ∀ q ∈ ([(0, (2, 0, 0, [150])), (1, (0, 0, 1, [])), (2, (0, 1, 79, [])), (3, (0, 0, 78, [])), (4, (0, 0, 12801, [])), (8, (2, 0, 0, [175])), (9, (0, -1, 79, [])), (10, (0, -1, 79, [])), (12, (0, -1, 79, [])), (13, (0, -1, 79, [])), (14, (0, 1, 1, []))] : List (Nat × tv_T)), tv_ok ta q.2 (n_v vs q.1) := hk
  obtain ⟨t0, hk⟩ := List.forall_mem_cons.mp hk
  have t0 : tv_ok ta (2, 0, 0, [150]) (n_v vs 0) := t0
  have r0 : ta (v_ad (n_v vs 0)) = some 150 := tv_rg t0
  obtain ⟨t1, hk⟩ := List.forall_mem_cons.mp hk
  have t1 : tv_ok ta (0, 0, 1, []) (n_v vs 1) := t1
  have k1 : 0 ≤ v_iv (n_v vs 1) ∧ v_iv (n_v vs 1) ≤ 1 := tv_rng t1
  obtain ⟨t2, hk⟩ := List.forall_mem_cons.mp hk
  have t2 : tv_ok ta (0, 1, 79, []) (n_v vs 2) := t2
  have k2 : 1 ≤ v_iv (n_v vs 2) ∧ v_iv (n_v vs 2) ≤ 79 := tv_rng t2
  obtain ⟨t3, hk⟩ := List.forall_mem_cons.mp hk
  have t3 : tv_ok ta (0, 0, 78, []) (n_v vs 3) := t3
  have k3 : 0 ≤ v_iv (n_v vs 3) ∧ v_iv (n_v vs 3) ≤ 78 := tv_rng t3
  obtain ⟨t4, hk⟩ := List.forall_mem_cons.mp hk
  have t4 : tv_ok ta (0, 0, 12801, []) (n_v vs 4) := t4
  have k4 : 0 ≤ v_iv (n_v vs 4) ∧ v_iv (n_v vs 4) ≤ 12801 := tv_rng t4
  obtain ⟨t8, hk⟩ := List.forall_mem_cons.mp hk
  have t8 : tv_ok ta (2, 0, 0, [175]) (n_v vs 8) := t8
  have r8 : ta (v_ad (n_v vs 8)) = some 175 := tv_rg t8
  obtain ⟨t9, hk⟩ := List.forall_mem_cons.mp hk
  have t9 : tv_ok ta (0, -1, 79, []) (n_v vs 9) := t9
  have k9 : (-1) ≤ v_iv (n_v vs 9) ∧ v_iv (n_v vs 9) ≤ 79 := tv_rng t9
  obtain ⟨t10, hk⟩ := List.forall_mem_cons.mp hk
  have t10 : tv_ok ta (0, -1, 79, []) (n_v vs 10) := t10
  have k10 : (-1) ≤ v_iv (n_v vs 10) ∧ v_iv (n_v vs 10) ≤ 79 := tv_rng t10
  obtain ⟨t12, hk⟩ := List.forall_mem_cons.mp hk
  have t12 : tv_ok ta (0, -1, 79, []) (n_v vs 12) := t12
  have k12 : (-1) ≤ v_iv (n_v vs 12) ∧ v_iv (n_v vs 12) ≤ 79 := tv_rng t12
  obtain ⟨t13, hk⟩ := List.forall_mem_cons.mp hk
  have t13 : tv_ok ta (0, -1, 79, []) (n_v vs 13) := t13
  have k13 : (-1) ≤ v_iv (n_v vs 13) ∧ v_iv (n_v vs 13) ≤ 79 := tv_rng t13
  obtain ⟨t14, hk⟩ := List.forall_mem_cons.mp hk
  have t14 : tv_ok ta (0, 1, 1, []) (n_v vs 14) := t14
  have k14 : 1 ≤ v_iv (n_v vs 14) ∧ v_iv (n_v vs 14) ≤ 1 := tv_rng t14
  have hf : fc_ok [(100, [8, 3, 13], []), (9, [8, 0], [44]), (100, [8, 2, 13], []), (9, [8, 0], [44]), (7, [13, 12], [5]), (7, [13, 13], [5]), (10, [13, 8, 3], []), (9, [8, 0], [44]), (10, [12, 8, 2], []), (9, [8, 0], [44]), (7, [9, 10], [1]), (10, [10, 8, 3], []), (9, [8, 0], [44]), (10, [9, 8, 2], []), (9, [8, 0], [44]), (20, [4, 0, 1], [2, 44, 80, 160, 2])] ta ws vs := hf
  obtain ⟨ta1, w1, le1, ⟨_, s1⟩, hf⟩ := fc_us (by decide) hf
  have s1 : (∀ b j, w_el ws b j = if b = v_ad (n_v vs 8) ∧ j = (v_iv (n_v vs 3)).toNat then v_iv (n_v vs 13) else w_el w1 b j) ∧ ∀ b k, w_fd ws b k = w_fd w1 b k := s1
  obtain ⟨f1, hf⟩ := fc_un (by decide) hf
  have f1 : n_v vs 8 = w_fd w1 (v_ad (n_v vs 0)) 44 := f1
  obtain ⟨ta2, w2, le2, ⟨_, s2⟩, hf⟩ := fc_us (by decide) hf
  have s2 : (∀ b j, w_el w1 b j = if b = v_ad (n_v vs 8) ∧ j = (v_iv (n_v vs 2)).toNat then v_iv (n_v vs 13) else w_el w2 b j) ∧ ∀ b k, w_fd w1 b k = w_fd w2 b k := s2
  obtain ⟨f3, hf⟩ := fc_un (by decide) hf
  have f3 : n_v vs 8 = w_fd w2 (v_ad (n_v vs 0)) 44 := f3
  obtain ⟨f4, hf⟩ := fc_un (by decide) hf
  have f4 : v_iv (n_v vs 13) ≤ v_iv (n_v vs 12) := f4
  obtain ⟨f5, hf⟩ := fc_un (by decide) hf
  have f5 : v_iv (n_v vs 13) ≤ v_iv (n_v vs 13) := f5
  obtain ⟨f6, hf⟩ := fc_un (by decide) hf
  have f6 : v_iv (n_v vs 13) = w_el w2 (v_ad (n_v vs 8)) (v_iv (n_v vs 3)).toNat := f6
  obtain ⟨f7, hf⟩ := fc_un (by decide) hf
  have f7 : n_v vs 8 = w_fd w2 (v_ad (n_v vs 0)) 44 := f7
  obtain ⟨f8, hf⟩ := fc_un (by decide) hf
  have f8 : v_iv (n_v vs 12) = w_el w2 (v_ad (n_v vs 8)) (v_iv (n_v vs 2)).toNat := f8
  obtain ⟨f9, hf⟩ := fc_un (by decide) hf
  have f9 : n_v vs 8 = w_fd w2 (v_ad (n_v vs 0)) 44 := f9
  obtain ⟨f10, hf⟩ := fc_un (by decide) hf
  have f10 : v_iv (n_v vs 9) ≠ v_iv (n_v vs 10) := f10
  obtain ⟨f11, hf⟩ := fc_un (by decide) hf
  have f11 : v_iv (n_v vs 10) = w_el w2 (v_ad (n_v vs 8)) (v_iv (n_v vs 3)).toNat := f11
  obtain ⟨f12, hf⟩ := fc_un (by decide) hf
  have f12 : n_v vs 8 = w_fd w2 (v_ad (n_v vs 0)) 44 := f12
  obtain ⟨f13, hf⟩ := fc_un (by decide) hf
  have f13 : v_iv (n_v vs 9) = w_el w2 (v_ad (n_v vs 8)) (v_iv (n_v vs 2)).toNat := f13
  obtain ⟨f14, hf⟩ := fc_un (by decide) hf
  have f14 : n_v vs 8 = w_fd w2 (v_ad (n_v vs 0)) 44 := f14
  obtain ⟨f15, hf⟩ := fc_un (by decide) hf
  have f15 : 160 + 2 * w_sum w2 (w_ar w2 (n_v vs 0) 44) 80 + v_iv (n_v vs 1) + 1 ≤ v_iv (n_v vs 4) := f15
  have a8 : v_ad (n_v vs 8) = w_ar ws (n_v vs 0) 44 := by rw [f1]; show _ = v_ad (w_fd ws _ _); rw [s1.2]
  rw [a8] at s1
  rw [a8] at s2
  rw [a8] at f6
  rw [a8] at f8
  rw [a8] at f11
  rw [a8] at f13
  have c44 := r8; rw [a8] at c44
  have e1 : v_iv (n_v vs 12) = v_iv (n_v vs 9) := by rw [f8, f13]
  have e2 : v_iv (n_v vs 13) = v_iv (n_v vs 10) := by rw [f6, f11]
  have hne : (v_iv (n_v vs 2)).toNat ≠ (v_iv (n_v vs 3)).toNat := fun e => f10 (by rw [f13, f11, e])
  have g1 := sum_set s1.1 (n := 80) (by omega)
  have g2 := sum_set s2.1 (n := 80) (by omega)
  rw [el_ne s2.1 (Or.inr (fun e => hne e.symm)), ← f11] at g1
  rw [← f13] at g2
  have t2 : w_ar w2 (n_v vs 0) 44 = w_ar ws (n_v vs 0) 44 := by show v_ad (w_fd w2 _ _) = v_ad (w_fd ws _ _); rw [s1.2, s2.2]
  rw [t2] at f15
  have key : 160 + 2 * w_sum ws (w_ar ws (n_v vs 0) 44) 80 + v_iv (n_v vs 14) + 1 ≤ v_iv (n_v vs 4) := by omega
  have nf0 : fc_1 (20, [4, 0, 14], [2, 44, 80, 160, 2]) ws (vs) := by
    refine ⟨fun n hn => ?_, ?_⟩
    · have hn : n ∈ [4, 0, 14] := hn
      rw [hl]
      simp only [List.mem_cons, List.not_mem_nil, or_false] at hn
      show n < 16; omega
    · show 160 + 2 * w_sum ws (w_ar ws (n_v vs 0) 44) 80 + v_iv (n_v vs 14) + 1 ≤ v_iv (n_v vs 4)
      exact key
  refine ⟨(fun _ h => (by cases h)), [], trivial, ?_, (fun _ h => (by cases h))⟩
  rw [List.append_nil]
  exact List.forall_mem_cons.mpr ⟨⟨by decide, nf0⟩, (fun _ h => (by cases h))⟩
def o_Mo_pieces_6 : or_T := (56, 16, [(0, (2, 0, 0, [150])), (1, (0, 0, 1, [])), (2, (0, 1, 79, [])), (3, (0, 0, 78, [])), (4, (0, 0, 12801, [])), (8, (2, 0, 0, [175])), (9, (0, -1, 79, [])), (10, (0, -1, 79, [])), (12, (0, -1, 78, [])), (13, (0, 0, 79, [])), (14, (0, 1, 1, []))], [(100, [8, 3, 12], []), (9, [8, 0], [44]), (100, [8, 2, 12], []), (9, [8, 0], [44]), (7, [12, 12], [5]), (7, [12, 13], [5]), (10, [13, 8, 3], []), (9, [8, 0], [44]), (10, [12, 8, 2], []), (9, [8, 0], [44]), (7, [9, 10], [1]), (10, [10, 8, 3], []), (9, [8, 0], [44]), (10, [9, 8, 2], []), (9, [8, 0], [44]), (20, [4, 0, 1], [2, 44, 80, 160, 2])], [], [], [(20, [4, 0, 14], [2, 44, 80, 160, 2])], [], [])
theorem oo_Mo_pieces_6 {kA : Nat → ClassId} : or_ok kA GG o_Mo_pieces_6 := by
  intro A ta ws vs hD hth hl hk hds hf
  have hl : vs.length = 16 := hl
  have hk : ∀ q ∈ ([(0, (2, 0, 0, [150])), (1, (0, 0, 1, [])), (2, (0, 1, 79, [])), (3, (0, 0, 78, [])), (4, (0, 0, 12801, [])), (8, (2, 0, 0, [175])), (9, (0, -1, 79, [])), (10, (0, -1, 79, [])), (12, (0, -1, 78, [])), (13, (0, 0, 79, [])), (14, (0, 1, 1, []))] : List (Nat × tv_T)), tv_ok ta q.2 (n_v vs q.1) := hk
  obtain ⟨t0, hk⟩ := List.forall_mem_cons.mp hk
  have t0 : tv_ok ta (2, 0, 0, [150]) (n_v vs 0) := t0
  have r0 : ta (v_ad (n_v vs 0)) = some 150 := tv_rg t0
  obtain ⟨t1, hk⟩ := List.forall_mem_cons.mp hk
  have t1 : tv_ok ta (0, 0, 1, []) (n_v vs 1) := t1
  have k1 : 0 ≤ v_iv (n_v vs 1) ∧ v_iv (n_v vs 1) ≤ 1 := tv_rng t1
  obtain ⟨t2, hk⟩ := List.forall_mem_cons.mp hk
  have t2 : tv_ok ta (0, 1, 79, []) (n_v vs 2) := t2
  have k2 : 1 ≤ v_iv (n_v vs 2) ∧ v_iv (n_v vs 2) ≤ 79 := tv_rng t2
  obtain ⟨t3, hk⟩ := List.forall_mem_cons.mp hk
  have t3 : tv_ok ta (0, 0, 78, []) (n_v vs 3) := t3
  have k3 : 0 ≤ v_iv (n_v vs 3) ∧ v_iv (n_v vs 3) ≤ 78 := tv_rng t3
  obtain ⟨t4, hk⟩ := List.forall_mem_cons.mp hk
  have t4 : tv_ok ta (0, 0, 12801, []) (n_v vs 4) := t4
  have k4 : 0 ≤ v_iv (n_v vs 4) ∧ v_iv (n_v vs 4) ≤ 12801 := tv_rng t4
  obtain ⟨t8, hk⟩ := List.forall_mem_cons.mp hk
  have t8 : tv_ok ta (2, 0, 0, [175]) (n_v vs 8) := t8
  have r8 : ta (v_ad (n_v vs 8)) = some 175 := tv_rg t8
  obtain ⟨t9, hk⟩ := List.forall_mem_cons.mp hk
  have t9 : tv_ok ta (0, -1, 79, []) (n_v vs 9) := t9
  have k9 : (-1) ≤ v_iv (n_v vs 9) ∧ v_iv (n_v vs 9) ≤ 79 := tv_rng t9
  obtain ⟨t10, hk⟩ := List.forall_mem_cons.mp hk
  have t10 : tv_ok ta (0, -1, 79, []) (n_v vs 10) := t10
  have k10 : (-1) ≤ v_iv (n_v vs 10) ∧ v_iv (n_v vs 10) ≤ 79 := tv_rng t10
  obtain ⟨t12, hk⟩ := List.forall_mem_cons.mp hk
  have t12 : tv_ok ta (0, -1, 78, []) (n_v vs 12) := t12
  have k12 : (-1) ≤ v_iv (n_v vs 12) ∧ v_iv (n_v vs 12) ≤ 78 := tv_rng t12
  obtain ⟨t13, hk⟩ := List.forall_mem_cons.mp hk
  have t13 : tv_ok ta (0, 0, 79, []) (n_v vs 13) := t13
  have k13 : 0 ≤ v_iv (n_v vs 13) ∧ v_iv (n_v vs 13) ≤ 79 := tv_rng t13
  obtain ⟨t14, hk⟩ := List.forall_mem_cons.mp hk
  have t14 : tv_ok ta (0, 1, 1, []) (n_v vs 14) := t14
  have k14 : 1 ≤ v_iv (n_v vs 14) ∧ v_iv (n_v vs 14) ≤ 1 := tv_rng t14
  have hf : fc_ok [(100, [8, 3, 12], []), (9, [8, 0], [44]), (100, [8, 2, 12], []), (9, [8, 0], [44]), (7, [12, 12], [5]), (7, [12, 13], [5]), (10, [13, 8, 3], []), (9, [8, 0], [44]), (10, [12, 8, 2], []), (9, [8, 0], [44]), (7, [9, 10], [1]), (10, [10, 8, 3], []), (9, [8, 0], [44]), (10, [9, 8, 2], []), (9, [8, 0], [44]), (20, [4, 0, 1], [2, 44, 80, 160, 2])] ta ws vs := hf
  obtain ⟨ta1, w1, le1, ⟨_, s1⟩, hf⟩ := fc_us (by decide) hf
  have s1 : (∀ b j, w_el ws b j = if b = v_ad (n_v vs 8) ∧ j = (v_iv (n_v vs 3)).toNat then v_iv (n_v vs 12) else w_el w1 b j) ∧ ∀ b k, w_fd ws b k = w_fd w1 b k := s1
  obtain ⟨f1, hf⟩ := fc_un (by decide) hf
  have f1 : n_v vs 8 = w_fd w1 (v_ad (n_v vs 0)) 44 := f1
  obtain ⟨ta2, w2, le2, ⟨_, s2⟩, hf⟩ := fc_us (by decide) hf
  have s2 : (∀ b j, w_el w1 b j = if b = v_ad (n_v vs 8) ∧ j = (v_iv (n_v vs 2)).toNat then v_iv (n_v vs 12) else w_el w2 b j) ∧ ∀ b k, w_fd w1 b k = w_fd w2 b k := s2
  obtain ⟨f3, hf⟩ := fc_un (by decide) hf
  have f3 : n_v vs 8 = w_fd w2 (v_ad (n_v vs 0)) 44 := f3
  obtain ⟨f4, hf⟩ := fc_un (by decide) hf
  have f4 : v_iv (n_v vs 12) ≤ v_iv (n_v vs 12) := f4
  obtain ⟨f5, hf⟩ := fc_un (by decide) hf
  have f5 : v_iv (n_v vs 12) ≤ v_iv (n_v vs 13) := f5
  obtain ⟨f6, hf⟩ := fc_un (by decide) hf
  have f6 : v_iv (n_v vs 13) = w_el w2 (v_ad (n_v vs 8)) (v_iv (n_v vs 3)).toNat := f6
  obtain ⟨f7, hf⟩ := fc_un (by decide) hf
  have f7 : n_v vs 8 = w_fd w2 (v_ad (n_v vs 0)) 44 := f7
  obtain ⟨f8, hf⟩ := fc_un (by decide) hf
  have f8 : v_iv (n_v vs 12) = w_el w2 (v_ad (n_v vs 8)) (v_iv (n_v vs 2)).toNat := f8
  obtain ⟨f9, hf⟩ := fc_un (by decide) hf
  have f9 : n_v vs 8 = w_fd w2 (v_ad (n_v vs 0)) 44 := f9
  obtain ⟨f10, hf⟩ := fc_un (by decide) hf
  have f10 : v_iv (n_v vs 9) ≠ v_iv (n_v vs 10) := f10
  obtain ⟨f11, hf⟩ := fc_un (by decide) hf
  have f11 : v_iv (n_v vs 10) = w_el w2 (v_ad (n_v vs 8)) (v_iv (n_v vs 3)).toNat := f11
  obtain ⟨f12, hf⟩ := fc_un (by decide) hf
  have f12 : n_v vs 8 = w_fd w2 (v_ad (n_v vs 0)) 44 := f12
  obtain ⟨f13, hf⟩ := fc_un (by decide) hf
  have f13 : v_iv (n_v vs 9) = w_el w2 (v_ad (n_v vs 8)) (v_iv (n_v vs 2)).toNat := f13
  obtain ⟨f14, hf⟩ := fc_un (by decide) hf
  have f14 : n_v vs 8 = w_fd w2 (v_ad (n_v vs 0)) 44 := f14
  obtain ⟨f15, hf⟩ := fc_un (by decide) hf
  have f15 : 160 + 2 * w_sum w2 (w_ar w2 (n_v vs 0) 44) 80 + v_iv (n_v vs 1) + 1 ≤ v_iv (n_v vs 4) := f15
  have a8 : v_ad (n_v vs 8) = w_ar ws (n_v vs 0) 44 := by rw [f1]; show _ = v_ad (w_fd ws _ _); rw [s1.2]
  rw [a8] at s1
  rw [a8] at s2
  rw [a8] at f6
  rw [a8] at f8
  rw [a8] at f11
  rw [a8] at f13
  have c44 := r8; rw [a8] at c44
  have e1 : v_iv (n_v vs 12) = v_iv (n_v vs 9) := by rw [f8, f13]
  have e2 : v_iv (n_v vs 13) = v_iv (n_v vs 10) := by rw [f6, f11]
  have hne : (v_iv (n_v vs 2)).toNat ≠ (v_iv (n_v vs 3)).toNat := fun e => f10 (by rw [f13, f11, e])
  have g1 := sum_set s1.1 (n := 80) (by omega)
  have g2 := sum_set s2.1 (n := 80) (by omega)
  rw [el_ne s2.1 (Or.inr (fun e => hne e.symm)), ← f11] at g1
  rw [← f13] at g2
  have t2 : w_ar w2 (n_v vs 0) 44 = w_ar ws (n_v vs 0) 44 := by show v_ad (w_fd w2 _ _) = v_ad (w_fd ws _ _); rw [s1.2, s2.2]
  rw [t2] at f15
  have key : 160 + 2 * w_sum ws (w_ar ws (n_v vs 0) 44) 80 + v_iv (n_v vs 14) + 1 ≤ v_iv (n_v vs 4) := by omega
  have nf0 : fc_1 (20, [4, 0, 14], [2, 44, 80, 160, 2]) ws (vs) := by
    refine ⟨fun n hn => ?_, ?_⟩
    · have hn : n ∈ [4, 0, 14] := hn
      rw [hl]
      simp only [List.mem_cons, List.not_mem_nil, or_false] at hn
      show n < 16; omega
    · show 160 + 2 * w_sum ws (w_ar ws (n_v vs 0) 44) 80 + v_iv (n_v vs 14) + 1 ≤ v_iv (n_v vs 4)
      exact key
  refine ⟨(fun _ h => (by cases h)), [], trivial, ?_, (fun _ h => (by cases h))⟩
  rw [List.append_nil]
  exact List.forall_mem_cons.mpr ⟨⟨by decide, nf0⟩, (fun _ h => (by cases h))⟩
def n_Mo_pieces_an : List an_T := [(2, [(0, (2, 0, 0, [150])), (1, (0, 0, 80, []))], [], (0, 0), [(0, 0, 99998), (1, 1, 80), (0, 0, 100000), (0, 0, 0), (0, 0, 0), (0, 0, 0), (0, 0, 0)], [], [], [], 0, [], []), (38, [(0, (2, 0, 0, [150])), (1, (0, 0, 1, []))], [], (0, 0), [(0, 0, 99962), (2, 2, 0), (0, 0, 100000), (0, 0, 0), (0, 0, 0), (0, 0, 0), (0, 0, 0)], [], [], [], 0, [(0, 0, 12801, [])], [(20, [2, 0, 1], [1, 44, 80, 160, 2])]), (46, [(0, (2, 0, 0, [150])), (1, (0, 0, 1, [])), (2, (0, 0, 80, []))], [], (0, 0), [(0, 0, 99962), (2, 3, 0), (0, 0, 99954), (1, 2, 80), (0, 0, 100000), (0, 0, 0), (0, 0, 0)], [], [], [], 0, [(0, 0, 12801, [])], [(20, [3, 0, 1], [2, 44, 80, 160, 2])]), (56, [(0, (2, 0, 0, [150])), (1, (0, 0, 1, [])), (2, (0, 0, 79, [])), (3, (0, 0, 79, []))], [], (0, 0), [(0, 0, 99962), (2, 4, 0), (0, 0, 99954), (1, 2, 80), (0, 0, 99944), (1, 3, 79), (0, 0, 100000)], [], [], [], 0, [(0, 0, 12801, [])], [(20, [4, 0, 1], [2, 44, 80, 160, 2])])]
def t_Mo_pieces_ct : ct_L := [(0, 547, e_Mo_min), (1, 659, e_Mo_shareNew)]
set_option maxRecDepth 100000 in
theorem c_Mo_pieces {l : Launch} {D : va_G} {kA : Nat → ClassId} (h_Mo_min : ct_ok l D kA GG y_Mo_min z_Mo_min e_Mo_min) (h_Mo_shareNew : ct_ok l D kA GG y_Mo_shareNew z_Mo_shareNew e_Mo_shareNew) : ct_ok l D kA GG y_Mo_pieces z_Mo_pieces e_Mo_pieces := chk_all_ok (FT := [(84, 13, 43), (87, 13, 44), (597, 13, 32)]) (PT := []) (CT := t_Mo_pieces_ct) (KT := []) (NT := []) (AN := n_Mo_pieces_an) (OT := [o_Mo_pieces_0, o_Mo_pieces_1, o_Mo_pieces_2, o_Mo_pieces_3, o_Mo_pieces_4, o_Mo_pieces_5, o_Mo_pieces_6]) 7 464 (List.forall_mem_cons.mpr ⟨oo_Mo_pieces_0, List.forall_mem_cons.mpr ⟨oo_Mo_pieces_1, List.forall_mem_cons.mpr ⟨oo_Mo_pieces_2, List.forall_mem_cons.mpr ⟨oo_Mo_pieces_3, List.forall_mem_cons.mpr ⟨oo_Mo_pieces_4, List.forall_mem_cons.mpr ⟨oo_Mo_pieces_5, List.forall_mem_cons.mpr ⟨oo_Mo_pieces_6, List.forall_mem_nil _⟩⟩⟩⟩⟩⟩⟩) (by decide +kernel) ⟨List.forall_mem_cons.mpr ⟨gf_Mo_84, List.forall_mem_cons.mpr ⟨gf_Mo_87, List.forall_mem_cons.mpr ⟨gf_Mo_597, List.forall_mem_nil _⟩⟩⟩, List.forall_mem_nil _, List.forall_mem_cons.mpr ⟨cl_static (y := y_Mo_min) h_Mo_min wm_3174 wm_9 wm_3172 wm_3173 ⟨by decide, by decide, by decide +kernel⟩ (by decide), List.forall_mem_cons.mpr ⟨cl_virtual (y := y_Mo_shareNew) (ci := 13) rfl rfl ⟨_, _, rfl⟩ (by decide +kernel) h_Mo_shareNew wm_3211 wm_9 wm_3208 wm_3210 wv_15_11 ⟨by decide, by decide, by decide +kernel⟩ (by decide), List.forall_mem_nil _⟩⟩, List.forall_mem_nil _, List.forall_mem_nil _⟩ (by decide +kernel)
def n_Mo_to_an : List an_T := []
def t_Mo_to_ct : ct_L := [(1, 394, e_Mo_tail), (1, 398, e_Mo_head)]
set_option maxRecDepth 100000 in
theorem c_Mo_to {l : Launch} {D : va_G} {kA : Nat → ClassId} (h_Mo_head : ct_ok l D kA GG y_Mo_head z_Mo_head e_Mo_head) (h_Mo_tail : ct_ok l D kA GG y_Mo_tail z_Mo_tail e_Mo_tail) : ct_ok l D kA GG y_Mo_to z_Mo_to e_Mo_to := chk_all_ok (FT := [(210, 13, 95)]) (PT := []) (CT := t_Mo_to_ct) (KT := []) (NT := []) (AN := n_Mo_to_an) (OT := []) 0 200 (List.forall_mem_nil _) (by decide +kernel) ⟨List.forall_mem_cons.mpr ⟨gf_Mo_210, List.forall_mem_nil _⟩, List.forall_mem_nil _, List.forall_mem_cons.mpr ⟨cl_virtual (y := y_Mo_tail) (ci := 13) rfl rfl ⟨_, _, rfl⟩ (by decide +kernel) h_Mo_tail wm_3045 wm_9 wm_3042 wm_3044 wv_13_8 ⟨by decide, by decide, by decide +kernel⟩ (by decide), List.forall_mem_cons.mpr ⟨cl_virtual (y := y_Mo_head) (ci := 13) rfl rfl ⟨_, _, rfl⟩ (by decide +kernel) h_Mo_head wm_3049 wm_9 wm_3046 wm_3048 wv_13_9 ⟨by decide, by decide, by decide +kernel⟩ (by decide), List.forall_mem_nil _⟩⟩, List.forall_mem_nil _, List.forall_mem_nil _⟩ (by decide +kernel)
def n_Ho_forget_an : List an_T := []
def t_Ho_forget_ct : ct_L := [(1, 411, e_Ne_forget), (1, 413, e_Dr_wipe)]
set_option maxRecDepth 100000 in
theorem c_Ho_forget {l : Launch} {D : va_G} {kA : Nat → ClassId} (h_Dr_wipe : ct_ok l D kA GG y_Dr_wipe z_Dr_wipe e_Dr_wipe) (h_Ne_forget : ct_ok l D kA GG y_Ne_forget z_Ne_forget e_Ne_forget) : ct_ok l D kA GG y_Ho_forget z_Ho_forget e_Ho_forget := chk_all_ok (FT := [(19, 12, 1), (25, 12, 2), (31, 12, 3)]) (PT := [(407, 2, 0, .boolean)]) (CT := t_Ho_forget_ct) (KT := []) (NT := []) (AN := n_Ho_forget_an) (OT := []) 0 200 (List.forall_mem_nil _) (by decide +kernel) ⟨List.forall_mem_cons.mpr ⟨gf_Ho_19, List.forall_mem_cons.mpr ⟨gf_Ho_25, List.forall_mem_cons.mpr ⟨gf_Ho_31, List.forall_mem_nil _⟩⟩⟩, List.forall_mem_cons.mpr ⟨pf_Ho_407, List.forall_mem_nil _⟩, List.forall_mem_cons.mpr ⟨cl_virtual (y := y_Ne_forget) (ci := 5) rfl rfl ⟨_, _, rfl⟩ (by decide +kernel) h_Ne_forget wm_793 wm_6 wm_790 wm_791 wm_792 ⟨by decide, by decide, by decide +kernel⟩ (by decide), List.forall_mem_cons.mpr ⟨cl_virtual (y := y_Dr_wipe) (ci := 0) rfl rfl ⟨_, _, rfl⟩ (by decide +kernel) h_Dr_wipe wm_797 wm_8 wm_794 wm_795 wm_796 ⟨by decide, by decide, by decide +kernel⟩ (by decide), List.forall_mem_nil _⟩⟩, List.forall_mem_nil _, List.forall_mem_nil _⟩ (by decide +kernel)
def n_Ho_group_an : List an_T := []
def t_Ho_group_ct : ct_L := [(0, 115, e_Ho_isPlace), (1, 218, e_Gr_hasGroup), (1, 227, e_Gr_sizeOfGroup)]
set_option maxRecDepth 100000 in
theorem c_Ho_group {l : Launch} {D : va_G} {kA : Nat → ClassId} (h_Gr_hasGroup : ct_ok l D kA GG y_Gr_hasGroup z_Gr_hasGroup e_Gr_hasGroup) (h_Gr_sizeOfGroup : ct_ok l D kA GG y_Gr_sizeOfGroup z_Gr_sizeOfGroup e_Gr_sizeOfGroup) (h_Ho_isPlace : ct_ok l D kA GG y_Ho_isPlace z_Ho_isPlace e_Ho_isPlace) : ct_ok l D kA GG y_Ho_group z_Ho_group e_Ho_group := chk_all_ok (FT := [(13, 12, 0), (221, 3, 11), (224, 3, 13)]) (PT := []) (CT := t_Ho_group_ct) (KT := []) (NT := []) (AN := n_Ho_group_an) (OT := []) 0 200 (List.forall_mem_nil _) (by decide +kernel) ⟨List.forall_mem_cons.mpr ⟨gf_Ho_13, List.forall_mem_cons.mpr ⟨gf_Ho_221, List.forall_mem_cons.mpr ⟨gf_Ho_224, List.forall_mem_nil _⟩⟩⟩, List.forall_mem_nil _, List.forall_mem_cons.mpr ⟨cl_static (y := y_Ho_isPlace) h_Ho_isPlace wm_633 wm_1 wm_631 wm_632 ⟨by decide, by decide, by decide +kernel⟩ (by decide), List.forall_mem_cons.mpr ⟨cl_virtual (y := y_Gr_hasGroup) (ci := 3) rfl rfl ⟨_, _, rfl⟩ (by decide +kernel) h_Gr_hasGroup wm_942 wm_3 wm_939 wm_940 wm_941 ⟨by decide, by decide, by decide +kernel⟩ (by decide), List.forall_mem_cons.mpr ⟨cl_virtual (y := y_Gr_sizeOfGroup) (ci := 3) rfl rfl ⟨_, _, rfl⟩ (by decide +kernel) h_Gr_sizeOfGroup wm_946 wm_3 wm_943 wm_944 wm_945 ⟨by decide, by decide, by decide +kernel⟩ (by decide), List.forall_mem_nil _⟩⟩⟩, List.forall_mem_nil _, List.forall_mem_nil _⟩ (by decide +kernel)
def n_Ho_letter_an : List an_T := []
def t_Ho_letter_ct : ct_L := [(0, 115, e_Ho_isPlace), (1, 166, e_Gr_hasNode), (1, 218, e_Gr_hasGroup)]
set_option maxRecDepth 100000 in
theorem c_Ho_letter {l : Launch} {D : va_G} {kA : Nat → ClassId} (h_Gr_hasGroup : ct_ok l D kA GG y_Gr_hasGroup z_Gr_hasGroup e_Gr_hasGroup) (h_Gr_hasNode : ct_ok l D kA GG y_Gr_hasNode z_Gr_hasNode e_Gr_hasNode) (h_Ho_isPlace : ct_ok l D kA GG y_Ho_isPlace z_Ho_isPlace e_Ho_isPlace) : ct_ok l D kA GG y_Ho_letter z_Ho_letter e_Ho_letter := chk_all_ok (FT := [(13, 12, 0), (169, 3, 4), (224, 3, 13), (230, 3, 3), (233, 3, 12)]) (PT := []) (CT := t_Ho_letter_ct) (KT := []) (NT := []) (AN := n_Ho_letter_an) (OT := []) 0 352 (List.forall_mem_nil _) (by decide +kernel) ⟨List.forall_mem_cons.mpr ⟨gf_Ho_13, List.forall_mem_cons.mpr ⟨gf_Ho_169, List.forall_mem_cons.mpr ⟨gf_Ho_224, List.forall_mem_cons.mpr ⟨gf_Ho_230, List.forall_mem_cons.mpr ⟨gf_Ho_233, List.forall_mem_nil _⟩⟩⟩⟩⟩, List.forall_mem_nil _, List.forall_mem_cons.mpr ⟨cl_static (y := y_Ho_isPlace) h_Ho_isPlace wm_633 wm_1 wm_631 wm_632 ⟨by decide, by decide, by decide +kernel⟩ (by decide), List.forall_mem_cons.mpr ⟨cl_virtual (y := y_Gr_hasNode) (ci := 3) rfl rfl ⟨_, _, rfl⟩ (by decide +kernel) h_Gr_hasNode wm_921 wm_3 wm_918 wm_919 wm_920 ⟨by decide, by decide, by decide +kernel⟩ (by decide), List.forall_mem_cons.mpr ⟨cl_virtual (y := y_Gr_hasGroup) (ci := 3) rfl rfl ⟨_, _, rfl⟩ (by decide +kernel) h_Gr_hasGroup wm_942 wm_3 wm_939 wm_940 wm_941 ⟨by decide, by decide, by decide +kernel⟩ (by decide), List.forall_mem_nil _⟩⟩⟩, List.forall_mem_nil _, List.forall_mem_nil _⟩ (by decide +kernel)
def n_Ho_shade_an : List an_T := []
def t_Ho_shade_ct : ct_L := [(0, 115, e_Ho_isPlace), (1, 166, e_Gr_hasNode), (1, 197, e_Gr_hasEdge)]
set_option maxRecDepth 100000 in
theorem c_Ho_shade {l : Launch} {D : va_G} {kA : Nat → ClassId} (h_Gr_hasEdge : ct_ok l D kA GG y_Gr_hasEdge z_Gr_hasEdge e_Gr_hasEdge) (h_Gr_hasNode : ct_ok l D kA GG y_Gr_hasNode z_Gr_hasNode e_Gr_hasNode) (h_Ho_isPlace : ct_ok l D kA GG y_Ho_isPlace z_Ho_isPlace e_Ho_isPlace) : ct_ok l D kA GG y_Ho_shade z_Ho_shade e_Ho_shade := chk_all_ok (FT := [(13, 12, 0), (31, 12, 3), (361, 0, 14)]) (PT := []) (CT := t_Ho_shade_ct) (KT := []) (NT := []) (AN := n_Ho_shade_an) (OT := []) 0 332 (List.forall_mem_nil _) (by decide +kernel) ⟨List.forall_mem_cons.mpr ⟨gf_Ho_13, List.forall_mem_cons.mpr ⟨gf_Ho_31, List.forall_mem_cons.mpr ⟨gf_Ho_361, List.forall_mem_nil _⟩⟩⟩, List.forall_mem_nil _, List.forall_mem_cons.mpr ⟨cl_static (y := y_Ho_isPlace) h_Ho_isPlace wm_633 wm_1 wm_631 wm_632 ⟨by decide, by decide, by decide +kernel⟩ (by decide), List.forall_mem_cons.mpr ⟨cl_virtual (y := y_Gr_hasNode) (ci := 3) rfl rfl ⟨_, _, rfl⟩ (by decide +kernel) h_Gr_hasNode wm_921 wm_3 wm_918 wm_919 wm_920 ⟨by decide, by decide, by decide +kernel⟩ (by decide), List.forall_mem_cons.mpr ⟨cl_virtual (y := y_Gr_hasEdge) (ci := 3) rfl rfl ⟨_, _, rfl⟩ (by decide +kernel) h_Gr_hasEdge wm_930 wm_3 wm_927 wm_928 wm_929 ⟨by decide, by decide, by decide +kernel⟩ (by decide), List.forall_mem_nil _⟩⟩⟩, List.forall_mem_nil _, List.forall_mem_nil _⟩ (by decide +kernel)
def n_Ho_writeNumber_an : List an_T := [(25, [(0, (2, 0, 0, [12])), (1, (0, -2147483648, 2147483647, [])), (2, (0, -2147483648, 2147483647, [])), (3, (0, 0, 1, [])), (4, (0, 1, 1000000, [])), (5, (0, 0, 7, []))], [], (0, 0), [(0, 0, 99975), (1, 5, 7), (0, 0, 100000)], [], [], [], 0, [], [])]
def t_Ho_writeNumber_ct : ct_L := [(1, 447, e_Ho_writeByte), (36, 450, e_jMath_abs1_v21), (36, 450, e_jMath_abs1_v22), (249, 456, e_jMath_max1_v23)]
set_option maxRecDepth 100000 in
theorem c_Ho_writeNumber {l : Launch} {D : va_G} {kA : Nat → ClassId} (h_Ho_writeByte : ct_ok l D kA GG y_Ho_writeByte z_Ho_writeByte e_Ho_writeByte) : ct_ok l D kA GG y_Ho_writeNumber z_Ho_writeNumber e_Ho_writeNumber := chk_all_ok (FT := []) (PT := []) (CT := t_Ho_writeNumber_ct) (KT := [(1, 455, .int (1000000), (0, 1000000, 1000000, []))]) (NT := []) (AN := n_Ho_writeNumber_an) (OT := []) 3 424 (List.forall_mem_nil _) (by decide +kernel) ⟨List.forall_mem_nil _, List.forall_mem_nil _, List.forall_mem_cons.mpr ⟨cl_virtual (y := y_Ho_writeByte) (ci := 12) rfl rfl ⟨_, _, rfl⟩ (by decide +kernel) h_Ho_writeByte wm_2345 wm_1 wm_2342 wm_2344 wv_12_0 ⟨by decide, by decide, by decide +kernel⟩ (by decide), List.forall_mem_cons.mpr ⟨cl_static (y := y_jMath_abs1) c_jMath_abs1_v21 wm_1811 wm_10 wm_2355 wm_1810 ⟨by decide, by decide, by decide +kernel⟩ (by decide), List.forall_mem_cons.mpr ⟨cl_static (y := y_jMath_abs1) c_jMath_abs1_v22 wm_1811 wm_10 wm_2355 wm_1810 ⟨by decide, by decide, by decide +kernel⟩ (by decide), List.forall_mem_cons.mpr ⟨cl_static (y := y_jMath_max1) c_jMath_max1_v23 wm_836 wm_10 wm_2357 wm_835 ⟨by decide, by decide, by decide +kernel⟩ (by decide), List.forall_mem_nil _⟩⟩⟩⟩, List.forall_mem_cons.mpr ⟨kx_Ho_1_455, List.forall_mem_nil _⟩, List.forall_mem_nil _⟩ (by decide +kernel)
def n_Dr_isFree_an : List an_T := [(3, [(0, (2, 0, 0, [0])), (1, (0, 0, 47, [])), (2, (0, -2147483648, 2147483647, [])), (3, (0, -2147483648, 2147483647, [])), (4, (0, 0, 24, []))], [], (0, 0), [(0, 0, 99997), (1, 4, 24), (0, 0, 100000)], [], [], [], 0, [], []), (37, [(0, (2, 0, 0, [0])), (1, (0, 0, 47, [])), (2, (0, -2147483648, 2147483647, [])), (3, (0, -2147483648, 2147483647, [])), (4, (0, 0, 47, []))], [], (0, 0), [(0, 0, 99963), (1, 4, 47), (0, 0, 100000)], [], [], [], 0, [], [])]
def t_Dr_isFree_ct : ct_L := [(1, 144, e_Dr_isInBox)]
set_option maxRecDepth 100000 in
theorem c_Dr_isFree {l : Launch} {D : va_G} {kA : Nat → ClassId} (h_Dr_isInBox : ct_ok l D kA GG y_Dr_isInBox z_Dr_isInBox e_Dr_isInBox) : ct_ok l D kA GG y_Dr_isFree z_Dr_isFree e_Dr_isFree := chk_all_ok (FT := [(56, 0, 15), (59, 0, 16), (74, 0, 0), (141, 3, 0)]) (PT := []) (CT := t_Dr_isFree_ct) (KT := []) (NT := []) (AN := n_Dr_isFree_an) (OT := []) 3 200 (List.forall_mem_nil _) (by decide +kernel) ⟨List.forall_mem_cons.mpr ⟨gf_Dr_56, List.forall_mem_cons.mpr ⟨gf_Dr_59, List.forall_mem_cons.mpr ⟨gf_Dr_74, List.forall_mem_cons.mpr ⟨gf_Dr_141, List.forall_mem_nil _⟩⟩⟩⟩, List.forall_mem_nil _, List.forall_mem_cons.mpr ⟨cl_virtual (y := y_Dr_isInBox) (ci := 0) rfl rfl ⟨_, _, rfl⟩ (by decide +kernel) h_Dr_isInBox wm_1999 wm_8 wm_1996 wm_1997 wm_1998 ⟨by decide, by decide, by decide +kernel⟩ (by decide), List.forall_mem_nil _⟩, List.forall_mem_nil _, List.forall_mem_nil _⟩ (by decide +kernel)
def n_Dr_wholeLength_an : List an_T := [(4, [(0, (2, 0, 0, [0])), (1, (1, -9223372036854775808, 9223372036854775807, [])), (3, (0, 0, 48, []))], [], (0, 0), [(0, 0, 99996), (1, 2, 48), (0, 0, 100000), (0, 0, 0), (0, 0, 0)], [], [], [], 0, [], []), (18, [(0, (2, 0, 0, [0])), (1, (1, -9223372036854775808, 9223372036854775807, [])), (3, (0, 0, 47, [])), (4, (0, 0, 25, []))], [], (0, 0), [(0, 0, 99996), (1, 2, 48), (0, 0, 99982), (1, 3, 25), (0, 0, 100000)], [], [], [], 0, [], [])]
def t_Dr_wholeLength_ct : ct_L := [(1, 128, e_Dr_pointX), (1, 134, e_Dr_pointY), (144, 112, e_jMath_abs1_v14), (216, 112, e_jMath_abs1_v14)]
set_option maxRecDepth 100000 in
theorem c_Dr_wholeLength {l : Launch} {D : va_G} {kA : Nat → ClassId} (h_Dr_pointX : ct_ok l D kA GG y_Dr_pointX z_Dr_pointX e_Dr_pointX) (h_Dr_pointY : ct_ok l D kA GG y_Dr_pointY z_Dr_pointY e_Dr_pointY) : ct_ok l D kA GG y_Dr_wholeLength z_Dr_wholeLength e_Dr_wholeLength := chk_all_ok (FT := [(22, 0, 4), (74, 0, 0), (151, 3, 1)]) (PT := []) (CT := t_Dr_wholeLength_ct) (KT := []) (NT := []) (AN := n_Dr_wholeLength_an) (OT := []) 5 1184 (List.forall_mem_nil _) (by decide +kernel) ⟨List.forall_mem_cons.mpr ⟨gf_Dr_22, List.forall_mem_cons.mpr ⟨gf_Dr_74, List.forall_mem_cons.mpr ⟨gf_Dr_151, List.forall_mem_nil _⟩⟩⟩, List.forall_mem_nil _, List.forall_mem_cons.mpr ⟨cl_virtual (y := y_Dr_pointX) (ci := 0) rfl rfl ⟨_, _, rfl⟩ (by decide +kernel) h_Dr_pointX wm_1986 wm_8 wm_1983 wm_1984 wm_1985 ⟨by decide, by decide, by decide +kernel⟩ (by decide), List.forall_mem_cons.mpr ⟨cl_virtual (y := y_Dr_pointY) (ci := 0) rfl rfl ⟨_, _, rfl⟩ (by decide +kernel) h_Dr_pointY wm_1991 wm_8 wm_1988 wm_1989 wm_1990 ⟨by decide, by decide, by decide +kernel⟩ (by decide), List.forall_mem_cons.mpr ⟨cl_static (y := y_jMath_abs1) c_jMath_abs1_v14 wm_1811 wm_10 wm_2000 wm_1810 ⟨by decide, by decide, by decide +kernel⟩ (by decide), List.forall_mem_cons.mpr ⟨cl_static (y := y_jMath_abs1) c_jMath_abs1_v14 wm_1811 wm_10 wm_2000 wm_1810 ⟨by decide, by decide, by decide +kernel⟩ (by decide), List.forall_mem_nil _⟩⟩⟩⟩, List.forall_mem_nil _, List.forall_mem_nil _⟩ (by decide +kernel)
def n_Em_loadKept_an : List an_T := [(13, [(0, (2, 0, 0, [1])), (1, (2, 0, 0, [3])), (2, (0, 0, 48, []))], [], (0, 0), [(0, 0, 99987), (1, 2, 48), (0, 0, 100000)], [], [], [], 0, [], [])]
def t_Em_loadKept_ct : ct_L := [(1, 91, e_Ne_join), (1, 123, e_Ne_begin)]
set_option maxRecDepth 100000 in
theorem c_Em_loadKept {l : Launch} {D : va_G} {kA : Nat → ClassId} (h_Ne_begin : ct_ok l D kA GG y_Ne_begin z_Ne_begin e_Ne_begin) (h_Ne_join : ct_ok l D kA GG y_Ne_join z_Ne_join e_Ne_join) : ct_ok l D kA GG y_Em_loadKept z_Em_loadKept e_Em_loadKept := chk_all_ok (FT := [(18, 1, 1), (29, 1, 4), (88, 3, 0), (99, 3, 1), (127, 3, 7), (130, 3, 8)]) (PT := []) (CT := t_Em_loadKept_ct) (KT := []) (NT := []) (AN := n_Em_loadKept_an) (OT := []) 3 200 (List.forall_mem_nil _) (by decide +kernel) ⟨List.forall_mem_cons.mpr ⟨gf_Em_18, List.forall_mem_cons.mpr ⟨gf_Em_29, List.forall_mem_cons.mpr ⟨gf_Em_88, List.forall_mem_cons.mpr ⟨gf_Em_99, List.forall_mem_cons.mpr ⟨gf_Em_127, List.forall_mem_cons.mpr ⟨gf_Em_130, List.forall_mem_nil _⟩⟩⟩⟩⟩⟩, List.forall_mem_nil _, List.forall_mem_cons.mpr ⟨cl_virtual (y := y_Ne_join) (ci := 5) rfl rfl ⟨_, _, rfl⟩ (by decide +kernel) h_Ne_join wm_1065 wm_6 wm_1161 wm_1063 wm_1064 ⟨by decide, by decide, by decide +kernel⟩ (by decide), List.forall_mem_cons.mpr ⟨cl_virtual (y := y_Ne_begin) (ci := 5) rfl rfl ⟨_, _, rfl⟩ (by decide +kernel) h_Ne_begin wm_1060 wm_6 wm_1160 wm_1058 wm_1059 ⟨by decide, by decide, by decide +kernel⟩ (by decide), List.forall_mem_nil _⟩⟩, List.forall_mem_nil _, List.forall_mem_nil _⟩ (by decide +kernel)
