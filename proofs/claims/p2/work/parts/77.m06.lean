def n_Ho_searchMap_an : List an_T := [(20, [(0, (2, 0, 0, [12])), (1, (2, 0, 0, [3])), (2, (2, 0, 0, [3])), (3, (2, 0, 0, [258])), (4, (0, 0, 24, [])), (5, (0, 0, 16777215, [])), (6, (0, -1, 24, [])), (7, (0, -2147483622, 60000, []))], [], (0, 0), [(0, 0, 99980), (1, 7, 60000), (0, 0, 100000), (0, 0, 0), (0, 0, 0)], [], [((0, 8), (0, -1, 20000, []))], [], 0, [], []), (69, [(0, (2, 0, 0, [12])), (1, (2, 0, 0, [3])), (2, (2, 0, 0, [3])), (3, (2, 0, 0, [258])), (4, (0, 1, 24, [])), (5, (0, 0, 16777215, [])), (6, (0, 0, 23, [])), (7, (0, -2147483623, 59999, [])), (8, (0, 0, 24, []))], [], (0, 0), [(0, 0, 99980), (1, 7, 60000), (0, 0, 99931), (1, 8, 24), (0, 0, 100000)], [], [], [], 0, [], [])]
def t_Ho_searchMap_ct : ct_L := [(0, 431, e_Ho_mayBecome), (45, 375, e_jArr_fill1_v35)]
set_option maxRecDepth 100000 in
theorem c_Ho_searchMap {l : Launch} {D : va_G} {kA : Nat → ClassId} (h_Ho_mayBecome : ct_ok l D kA GG y_Ho_mayBecome z_Ho_mayBecome e_Ho_mayBecome) : ct_ok l D kA GG y_Ho_searchMap z_Ho_searchMap e_Ho_searchMap := chk_all_ok (FT := [(57, 12, 8), (132, 3, 0)]) (PT := [(57, 12, 8, .int)]) (CT := t_Ho_searchMap_ct) (KT := [(1, 430, .int (60000), (0, 60000, 60000, []))]) (NT := []) (AN := n_Ho_searchMap_an) (OT := []) 5 668 (List.forall_mem_nil _) (by decide +kernel) ⟨List.forall_mem_cons.mpr ⟨gf_Ho_57, List.forall_mem_cons.mpr ⟨gf_Ho_132, List.forall_mem_nil _⟩⟩, List.forall_mem_cons.mpr ⟨pf_Ho_57, List.forall_mem_nil _⟩, List.forall_mem_cons.mpr ⟨cl_static (y := y_Ho_mayBecome) h_Ho_mayBecome wm_1035 wm_1 wm_1033 wm_1034 ⟨by decide, by decide, by decide +kernel⟩ (by decide), List.forall_mem_cons.mpr ⟨cl_static (y := y_jArr_fill1) c_jArr_fill1_v35 wm_55 wm_4 wm_1031 wm_54 ⟨by decide, by decide, by decide +kernel⟩ (by decide), List.forall_mem_nil _⟩⟩, List.forall_mem_cons.mpr ⟨kx_Ho_1_430, List.forall_mem_nil _⟩, List.forall_mem_nil _⟩ (by decide +kernel)
def n_Dr_measure_an : List an_T := [(42, [(0, (2, 0, 0, [0])), (1, (0, 1, 24, []))], [], (0, 0), [(0, 0, 99958), (1, 1, 24), (0, 0, 100000), (0, 0, 0), (0, 0, 0)], [], [], [], 0, [], []), (77, [(0, (2, 0, 0, [0])), (1, (0, 0, 48, []))], [], (0, 0), [(0, 0, 99923), (1, 1, 48), (0, 0, 100000), (0, 0, 0), (0, 0, 0)], [], [], [], 0, [], []), (90, [(0, (2, 0, 0, [0])), (1, (0, 0, 47, [])), (2, (0, 1, 25, []))], [], (0, 0), [(0, 0, 99923), (1, 1, 48), (0, 0, 99910), (1, 2, 25), (0, 0, 100000)], [], [], [], 0, [], [])]
def t_Dr_measure_ct : ct_L := [(1, 128, e_Dr_pointX), (1, 134, e_Dr_pointY), (1, 147, e_Dr_take)]
set_option maxRecDepth 100000 in
theorem c_Dr_measure {l : Launch} {D : va_G} {kA : Nat → ClassId} (h_Dr_pointX : ct_ok l D kA GG y_Dr_pointX z_Dr_pointX e_Dr_pointX) (h_Dr_pointY : ct_ok l D kA GG y_Dr_pointY z_Dr_pointY e_Dr_pointY) (h_Dr_take : ct_ok l D kA GG y_Dr_take z_Dr_take e_Dr_take) : ct_ok l D kA GG y_Dr_measure z_Dr_measure e_Dr_measure := chk_all_ok (FT := [(15, 0, 2), (19, 0, 3), (22, 0, 4), (74, 0, 0), (141, 3, 0), (151, 3, 1)]) (PT := [(62, 0, 17, .int), (65, 0, 18, .int), (68, 0, 19, .int), (71, 0, 20, .int)]) (CT := t_Dr_measure_ct) (KT := []) (NT := []) (AN := n_Dr_measure_an) (OT := []) 5 344 (List.forall_mem_nil _) (by decide +kernel) ⟨List.forall_mem_cons.mpr ⟨gf_Dr_15, List.forall_mem_cons.mpr ⟨gf_Dr_19, List.forall_mem_cons.mpr ⟨gf_Dr_22, List.forall_mem_cons.mpr ⟨gf_Dr_74, List.forall_mem_cons.mpr ⟨gf_Dr_141, List.forall_mem_cons.mpr ⟨gf_Dr_151, List.forall_mem_nil _⟩⟩⟩⟩⟩⟩, List.forall_mem_cons.mpr ⟨pf_Dr_62, List.forall_mem_cons.mpr ⟨pf_Dr_65, List.forall_mem_cons.mpr ⟨pf_Dr_68, List.forall_mem_cons.mpr ⟨pf_Dr_71, List.forall_mem_nil _⟩⟩⟩⟩, List.forall_mem_cons.mpr ⟨cl_virtual (y := y_Dr_pointX) (ci := 0) rfl rfl ⟨_, _, rfl⟩ (by decide +kernel) h_Dr_pointX wm_1986 wm_8 wm_1983 wm_1984 wm_1985 ⟨by decide, by decide, by decide +kernel⟩ (by decide), List.forall_mem_cons.mpr ⟨cl_virtual (y := y_Dr_pointY) (ci := 0) rfl rfl ⟨_, _, rfl⟩ (by decide +kernel) h_Dr_pointY wm_1991 wm_8 wm_1988 wm_1989 wm_1990 ⟨by decide, by decide, by decide +kernel⟩ (by decide), List.forall_mem_cons.mpr ⟨cl_virtual (y := y_Dr_take) (ci := 0) rfl rfl ⟨_, _, rfl⟩ (by decide +kernel) h_Dr_take wm_2070 wm_8 wm_2067 wm_2069 wv_10_7 ⟨by decide, by decide, by decide +kernel⟩ (by decide), List.forall_mem_nil _⟩⟩⟩, List.forall_mem_nil _, List.forall_mem_nil _⟩ (by decide +kernel)
def n_Dr_report_an : List an_T := []
def t_Dr_report_ct : ct_L := [(1, 85, e_Gr_hasNode), (1, 94, e_Dr_reportLayers), (1, 98, e_Dr_reportArea)]
set_option maxRecDepth 100000 in
theorem c_Dr_report {l : Launch} {D : va_G} {kA : Nat → ClassId} (h_Dr_reportArea : ct_ok l D kA GG y_Dr_reportArea z_Dr_reportArea e_Dr_reportArea) (h_Dr_reportLayers : ct_ok l D kA GG y_Dr_reportLayers z_Dr_reportLayers e_Dr_reportLayers) (h_Gr_hasNode : ct_ok l D kA GG y_Gr_hasNode z_Gr_hasNode e_Gr_hasNode) : ct_ok l D kA GG y_Dr_report z_Dr_report e_Dr_report := chk_all_ok (FT := [(9, 0, 1), (31, 0, 7), (37, 0, 9), (47, 0, 12), (74, 0, 0)]) (PT := []) (CT := t_Dr_report_ct) (KT := []) (NT := []) (AN := n_Dr_report_an) (OT := []) 0 288 (List.forall_mem_nil _) (by decide +kernel) ⟨List.forall_mem_cons.mpr ⟨gf_Dr_9, List.forall_mem_cons.mpr ⟨gf_Dr_31, List.forall_mem_cons.mpr ⟨gf_Dr_37, List.forall_mem_cons.mpr ⟨gf_Dr_47, List.forall_mem_cons.mpr ⟨gf_Dr_74, List.forall_mem_nil _⟩⟩⟩⟩⟩, List.forall_mem_nil _, List.forall_mem_cons.mpr ⟨cl_virtual (y := y_Gr_hasNode) (ci := 3) rfl rfl ⟨_, _, rfl⟩ (by decide +kernel) h_Gr_hasNode wm_921 wm_3 wm_1822 wm_919 wm_920 ⟨by decide, by decide, by decide +kernel⟩ (by decide), List.forall_mem_cons.mpr ⟨cl_virtual (y := y_Dr_reportLayers) (ci := 0) rfl rfl ⟨_, _, rfl⟩ (by decide +kernel) h_Dr_reportLayers wm_1836 wm_8 wm_1833 wm_1835 wv_8_13 ⟨by decide, by decide, by decide +kernel⟩ (by decide), List.forall_mem_cons.mpr ⟨cl_virtual (y := y_Dr_reportArea) (ci := 0) rfl rfl ⟨_, _, rfl⟩ (by decide +kernel) h_Dr_reportArea wm_1840 wm_8 wm_1837 wm_1839 wv_8_14 ⟨by decide, by decide, by decide +kernel⟩ (by decide), List.forall_mem_nil _⟩⟩⟩, List.forall_mem_nil _, List.forall_mem_nil _⟩ (by decide +kernel)
def n_Pl_endOfRow_an : List an_T := [(21, [(0, (2, 0, 0, [6])), (1, (0, 0, 31, [])), (2, (0, -2147483648, 2147483647, [])), (3, (0, 1, 32, [])), (4, (0, -2147483648, 2147483647, []))], [], (0, 0), [(0, 0, 99979), (1, 3, 32), (0, 0, 100000)], [], [], [], 0, [], [])]
def t_Pl_endOfRow_ct : ct_L := [(1, 204, e_Pl_findWorst)]
set_option maxRecDepth 100000 in
theorem c_Pl_endOfRow {l : Launch} {D : va_G} {kA : Nat → ClassId} (h_Pl_findWorst : ct_ok l D kA GG y_Pl_findWorst z_Pl_findWorst e_Pl_findWorst) : ct_ok l D kA GG y_Pl_endOfRow z_Pl_endOfRow e_Pl_endOfRow := chk_all_ok (FT := [(45, 6, 10), (48, 6, 11), (54, 6, 13), (58, 6, 14)]) (PT := []) (CT := t_Pl_endOfRow_ct) (KT := []) (NT := []) (AN := n_Pl_endOfRow_an) (OT := []) 3 224 (List.forall_mem_nil _) (by decide +kernel) ⟨List.forall_mem_cons.mpr ⟨gf_Pl_45, List.forall_mem_cons.mpr ⟨gf_Pl_48, List.forall_mem_cons.mpr ⟨gf_Pl_54, List.forall_mem_cons.mpr ⟨gf_Pl_58, List.forall_mem_nil _⟩⟩⟩⟩, List.forall_mem_nil _, List.forall_mem_cons.mpr ⟨cl_virtual (y := y_Pl_findWorst) (ci := 6) rfl rfl ⟨_, _, rfl⟩ (by decide +kernel) h_Pl_findWorst wm_1747 wm_21 wm_1744 wm_1746 wv_8_2 ⟨by decide, by decide, by decide +kernel⟩ (by decide), List.forall_mem_nil _⟩, List.forall_mem_nil _, List.forall_mem_nil _⟩ (by decide +kernel)
def n_Re_advance_an : List an_T := [(0, [(0, (2, 0, 0, [8]))], [], (0, 0), [(0, 0, 100000), (1, 1, 2000), (0, 0, 100000)], [], [((0, 6), (0, 0, 2000, []))], [], 0, [], []), (94, [(0, (2, 0, 0, [8])), (1, (0, 65, 122, []))], [], (0, 0), [(0, 0, 99906), (1, 2, 2000), (0, 0, 100000)], [(1, 2, -1000000000000, 122), (2, 1, -1000000000000, 1935)], [((0, 6), (0, 0, 2000, []))], [], 0, [], []), (171, [(0, (2, 0, 0, [8])), (1, (0, 48, 57, []))], [], (0, 0), [(0, 0, 99829), (1, 3, 2000), (0, 0, 100000)], [(1, 3, -1000000000000, 57), (3, 1, -1000000000000, 1952)], [((0, 9), (0, -2147483648, 1000000, [])), ((0, 6), (0, 0, 2000, []))], [], 0, [], [])]
def t_Re_advance_ct : ct_L := [(0, 64, e_Re_isLetter), (0, 68, e_Re_isDigit), (0, 71, e_Re_isNameByte), (0, 81, e_Re_isSign), (663, 75, e_jMath_min1_v36)]
set_option maxRecDepth 100000 in
theorem c_Re_advance {l : Launch} {D : va_G} {kA : Nat → ClassId} (h_Re_isDigit : ct_ok l D kA GG y_Re_isDigit z_Re_isDigit e_Re_isDigit) (h_Re_isLetter : ct_ok l D kA GG y_Re_isLetter z_Re_isLetter e_Re_isLetter) (h_Re_isNameByte : ct_ok l D kA GG y_Re_isNameByte z_Re_isNameByte e_Re_isNameByte) (h_Re_isSign : ct_ok l D kA GG y_Re_isSign z_Re_isSign e_Re_isSign) : ct_ok l D kA GG y_Re_advance z_Re_advance e_Re_advance := chk_all_ok (FT := [(9, 8, 0), (32, 8, 5), (35, 8, 6), (41, 8, 8), (44, 8, 9)]) (PT := [(35, 8, 6, .int), (38, 8, 7, .int), (41, 8, 8, .int), (44, 8, 9, .int)]) (CT := t_Re_advance_ct) (KT := [(0, 74, .int (1000000), (0, 1000000, 1000000, []))]) (NT := []) (AN := n_Re_advance_an) (OT := []) 3 1876 (List.forall_mem_nil _) (by decide +kernel) ⟨List.forall_mem_cons.mpr ⟨gf_Re_9, List.forall_mem_cons.mpr ⟨gf_Re_32, List.forall_mem_cons.mpr ⟨gf_Re_35, List.forall_mem_cons.mpr ⟨gf_Re_41, List.forall_mem_cons.mpr ⟨gf_Re_44, List.forall_mem_nil _⟩⟩⟩⟩⟩, List.forall_mem_cons.mpr ⟨pf_Re_35, List.forall_mem_cons.mpr ⟨pf_Re_38, List.forall_mem_cons.mpr ⟨pf_Re_41, List.forall_mem_cons.mpr ⟨pf_Re_44, List.forall_mem_nil _⟩⟩⟩⟩, List.forall_mem_cons.mpr ⟨cl_static (y := y_Re_isLetter) h_Re_isLetter wm_648 wm_2 wm_646 wm_647 ⟨by decide, by decide, by decide +kernel⟩ (by decide), List.forall_mem_cons.mpr ⟨cl_static (y := y_Re_isDigit) h_Re_isDigit wm_654 wm_2 wm_652 wm_653 ⟨by decide, by decide, by decide +kernel⟩ (by decide), List.forall_mem_cons.mpr ⟨cl_static (y := y_Re_isNameByte) h_Re_isNameByte wm_651 wm_2 wm_649 wm_650 ⟨by decide, by decide, by decide +kernel⟩ (by decide), List.forall_mem_cons.mpr ⟨cl_static (y := y_Re_isSign) h_Re_isSign wm_661 wm_2 wm_659 wm_660 ⟨by decide, by decide, by decide +kernel⟩ (by decide), List.forall_mem_cons.mpr ⟨cl_static (y := y_jMath_min1) c_jMath_min1_v36 wm_658 wm_10 wm_656 wm_657 ⟨by decide, by decide, by decide +kernel⟩ (by decide), List.forall_mem_nil _⟩⟩⟩⟩⟩, List.forall_mem_cons.mpr ⟨kx_Re_0_74, List.forall_mem_nil _⟩, List.forall_mem_nil _⟩ (by decide +kernel)
def n_Ro_findCosts_an : List an_T := [(43, [(0, (2, 0, 0, [9])), (1, (0, 0, 4, []))], [], (0, 0), [(0, 0, 99957), (1, 1, 4), (0, 0, 100000), (0, 0, 0), (0, 0, 0)], [], [], [], 0, [], []), (71, [(0, (2, 0, 0, [9])), (1, (0, 0, 4, [])), (2, (0, -2147483622, 1000000, []))], [], (0, 0), [(0, 0, 99929), (1, 2, 1000000), (0, 0, 100000), (0, 0, 0), (0, 0, 0)], [], [], [], 0, [], []), (124, [(0, (2, 0, 0, [9])), (1, (0, 0, 4, [])), (2, (0, -2147483623, 999999, [])), (3, (0, -1, 48003, [])), (4, (0, 0, 48004, []))], [], (0, 0), [(0, 0, 99929), (1, 2, 1000000), (0, 0, 99876), (1, 4, 48004), (0, 0, 100000)], [], [], [], 0, [], [])]
def t_Ro_findCosts_ct : ct_L := [(1, 137, e_Ro_enter), (1, 141, e_Ro_goBack), (54, 131, e_jArr_fill1_v37), (78, 131, e_jArr_fill1_v38)]
set_option maxRecDepth 100000 in
theorem c_Ro_findCosts {l : Launch} {D : va_G} {kA : Nat → ClassId} (h_Ro_enter : ct_ok l D kA GG y_Ro_enter z_Ro_enter e_Ro_enter) (h_Ro_goBack : ct_ok l D kA GG y_Ro_goBack z_Ro_goBack e_Ro_goBack) : ct_ok l D kA GG y_Ro_findCosts z_Ro_findCosts e_Ro_findCosts := chk_all_ok (FT := [(35, 9, 7), (38, 9, 8), (41, 9, 9), (45, 9, 10), (49, 9, 11), (53, 9, 12), (56, 9, 13)]) (PT := [(38, 9, 8, .int), (59, 9, 14, .int)]) (CT := t_Ro_findCosts_ct) (KT := [(0, 52, .int (48004), (0, 48004, 48004, [])), (0, 94, .int (1000000000), (0, 1000000000, 1000000000, [])), (0, 140, .int (1000000), (0, 1000000, 1000000, []))]) (NT := []) (AN := n_Ro_findCosts_an) (OT := []) 5 488 (List.forall_mem_nil _) (by decide +kernel) ⟨List.forall_mem_cons.mpr ⟨gf_Ro_35, List.forall_mem_cons.mpr ⟨gf_Ro_38, List.forall_mem_cons.mpr ⟨gf_Ro_41, List.forall_mem_cons.mpr ⟨gf_Ro_45, List.forall_mem_cons.mpr ⟨gf_Ro_49, List.forall_mem_cons.mpr ⟨gf_Ro_53, List.forall_mem_cons.mpr ⟨gf_Ro_56, List.forall_mem_nil _⟩⟩⟩⟩⟩⟩⟩, List.forall_mem_cons.mpr ⟨pf_Ro_38, List.forall_mem_cons.mpr ⟨pf_Ro_59, List.forall_mem_nil _⟩⟩, List.forall_mem_cons.mpr ⟨cl_virtual (y := y_Ro_enter) (ci := 9) rfl rfl ⟨_, _, rfl⟩ (by decide +kernel) h_Ro_enter wm_1952 wm_22 wm_1949 wm_1951 wv_9_4 ⟨by decide, by decide, by decide +kernel⟩ (by decide), List.forall_mem_cons.mpr ⟨cl_virtual (y := y_Ro_goBack) (ci := 9) rfl rfl ⟨_, _, rfl⟩ (by decide +kernel) h_Ro_goBack wm_1957 wm_22 wm_1954 wm_1956 wv_9_5 ⟨by decide, by decide, by decide +kernel⟩ (by decide), List.forall_mem_cons.mpr ⟨cl_static (y := y_jArr_fill1) c_jArr_fill1_v37 wm_55 wm_4 wm_1948 wm_54 ⟨by decide, by decide, by decide +kernel⟩ (by decide), List.forall_mem_cons.mpr ⟨cl_static (y := y_jArr_fill1) c_jArr_fill1_v38 wm_55 wm_4 wm_1948 wm_54 ⟨by decide, by decide, by decide +kernel⟩ (by decide), List.forall_mem_nil _⟩⟩⟩⟩, List.forall_mem_cons.mpr ⟨kx_Ro_0_52, List.forall_mem_cons.mpr ⟨kx_Ro_0_94, List.forall_mem_cons.mpr ⟨kx_Ro_0_140, List.forall_mem_nil _⟩⟩⟩, List.forall_mem_nil _⟩ (by decide +kernel)
def n_Mo_chordCrossings_an : List an_T := [(4, [(0, (2, 0, 0, [139])), (1, (0, 0, 24, [])), (2, (0, 0, 0, [])), (3, (0, 0, 24, []))], [], (0, 0), [(0, 0, 99996), (1, 3, 24), (0, 0, 100000), (0, 0, 0), (0, 0, 0)], [], [], [], 0, [], []), (29, [(0, (2, 0, 0, [139])), (1, (0, 0, 24, [])), (2, (0, -2147483648, 2147483647, [])), (3, (0, 0, 48, []))], [], (0, 0), [(0, 0, 99971), (1, 3, 48), (0, 0, 100000), (0, 0, 0), (0, 0, 0)], [], [], [], 0, [], []), (90, [(0, (2, 0, 0, [139])), (1, (0, 0, 24, [])), (2, (0, -2147483648, 2147483647, [])), (3, (0, 0, 47, [])), (4, (0, -1, 25, [])), (5, (0, -1, 25, [])), (6, (0, 0, 47, []))], [], (0, 0), [(0, 0, 99971), (1, 3, 48), (0, 0, 99910), (1, 6, 47), (0, 0, 100000)], [], [], [], 0, [], [])]
def t_Mo_chordCrossings_ct : ct_L := [(0, 547, e_Mo_min), (0, 855, e_Mo_max), (1, 394, e_Mo_tail), (1, 398, e_Mo_head), (1, 401, e_Mo_edges)]
set_option maxRecDepth 100000 in
theorem c_Mo_chordCrossings {l : Launch} {D : va_G} {kA : Nat → ClassId} (h_Mo_edges : ct_ok l D kA GG y_Mo_edges z_Mo_edges e_Mo_edges) (h_Mo_head : ct_ok l D kA GG y_Mo_head z_Mo_head e_Mo_head) (h_Mo_max : ct_ok l D kA GG y_Mo_max z_Mo_max e_Mo_max) (h_Mo_min : ct_ok l D kA GG y_Mo_min z_Mo_min e_Mo_min) (h_Mo_tail : ct_ok l D kA GG y_Mo_tail z_Mo_tail e_Mo_tail) : ct_ok l D kA GG y_Mo_chordCrossings z_Mo_chordCrossings e_Mo_chordCrossings := chk_all_ok (FT := [(213, 13, 96), (293, 13, 128)]) (PT := []) (CT := t_Mo_chordCrossings_ct) (KT := []) (NT := []) (AN := n_Mo_chordCrossings_an) (OT := []) 5 868 (List.forall_mem_nil _) (by decide +kernel) ⟨List.forall_mem_cons.mpr ⟨gf_Mo_213, List.forall_mem_cons.mpr ⟨gf_Mo_293, List.forall_mem_nil _⟩⟩, List.forall_mem_nil _, List.forall_mem_cons.mpr ⟨cl_static (y := y_Mo_min) h_Mo_min wm_3174 wm_9 wm_3172 wm_3173 ⟨by decide, by decide, by decide +kernel⟩ (by decide), List.forall_mem_cons.mpr ⟨cl_static (y := y_Mo_max) h_Mo_max wm_3430 wm_9 wm_3428 wm_3429 ⟨by decide, by decide, by decide +kernel⟩ (by decide), List.forall_mem_cons.mpr ⟨cl_virtual (y := y_Mo_tail) (ci := 13) rfl rfl ⟨_, _, rfl⟩ (by decide +kernel) h_Mo_tail wm_3045 wm_9 wm_3042 wm_3044 wv_13_8 ⟨by decide, by decide, by decide +kernel⟩ (by decide), List.forall_mem_cons.mpr ⟨cl_virtual (y := y_Mo_head) (ci := 13) rfl rfl ⟨_, _, rfl⟩ (by decide +kernel) h_Mo_head wm_3049 wm_9 wm_3046 wm_3048 wv_13_9 ⟨by decide, by decide, by decide +kernel⟩ (by decide), List.forall_mem_cons.mpr ⟨cl_virtual (y := y_Mo_edges) (ci := 13) rfl rfl ⟨_, _, rfl⟩ (by decide +kernel) h_Mo_edges wm_3037 wm_9 wm_3034 wm_3036 wv_13_6 ⟨by decide, by decide, by decide +kernel⟩ (by decide), List.forall_mem_nil _⟩⟩⟩⟩⟩, List.forall_mem_nil _, List.forall_mem_nil _⟩ (by decide +kernel)
def n_Mo_farFrom_an : List an_T := [(2, [(0, (2, 0, 0, [139])), (1, (0, 0, 23, [])), (2, (0, 0, 24, []))], [], (0, 0), [(0, 0, 99998), (1, 2, 24), (0, 0, 100000), (0, 0, 0), (0, 0, 0)], [], [], [], 0, [], []), (36, [(0, (2, 0, 0, [139])), (1, (0, 0, 23, [])), (2, (0, 0, 24, []))], [], (0, 0), [(0, 0, 99964), (1, 2, 24), (0, 0, 100000), (0, 0, 0), (0, 0, 0)], [], [], [], 0, [], []), (46, [(0, (2, 0, 0, [139])), (1, (0, 0, 23, [])), (2, (0, 0, 23, [])), (3, (0, 0, 48, []))], [], (0, 0), [(0, 0, 99964), (1, 2, 24), (0, 0, 99954), (1, 3, 48), (0, 0, 100000)], [], [], [], 0, [], []), (134, [(0, (2, 0, 0, [139])), (1, (0, 0, 23, [])), (2, (0, 0, 24, []))], [], (0, 0), [(0, 0, 99866), (1, 2, 24), (0, 0, 100000), (0, 0, 0), (0, 0, 0)], [], [], [], 0, [], [])]
def t_Mo_farFrom_ct : ct_L := [(0, 547, e_Mo_min), (1, 394, e_Mo_tail), (1, 398, e_Mo_head), (1, 401, e_Mo_edges), (1, 475, e_Mo_nodes)]
set_option maxRecDepth 100000 in
theorem c_Mo_farFrom {l : Launch} {D : va_G} {kA : Nat → ClassId} (h_Mo_edges : ct_ok l D kA GG y_Mo_edges z_Mo_edges e_Mo_edges) (h_Mo_head : ct_ok l D kA GG y_Mo_head z_Mo_head e_Mo_head) (h_Mo_min : ct_ok l D kA GG y_Mo_min z_Mo_min e_Mo_min) (h_Mo_nodes : ct_ok l D kA GG y_Mo_nodes z_Mo_nodes e_Mo_nodes) (h_Mo_tail : ct_ok l D kA GG y_Mo_tail z_Mo_tail e_Mo_tail) : ct_ok l D kA GG y_Mo_farFrom z_Mo_farFrom e_Mo_farFrom := chk_all_ok (FT := [(38, 13, 19)]) (PT := []) (CT := t_Mo_farFrom_ct) (KT := [(1, 546, .int (1000000), (0, 1000000, 1000000, []))]) (NT := []) (AN := n_Mo_farFrom_an) (OT := []) 5 484 (List.forall_mem_nil _) (by decide +kernel) ⟨List.forall_mem_cons.mpr ⟨gf_Mo_38, List.forall_mem_nil _⟩, List.forall_mem_nil _, List.forall_mem_cons.mpr ⟨cl_static (y := y_Mo_min) h_Mo_min wm_3174 wm_9 wm_3172 wm_3173 ⟨by decide, by decide, by decide +kernel⟩ (by decide), List.forall_mem_cons.mpr ⟨cl_virtual (y := y_Mo_tail) (ci := 13) rfl rfl ⟨_, _, rfl⟩ (by decide +kernel) h_Mo_tail wm_3045 wm_9 wm_3042 wm_3044 wv_13_8 ⟨by decide, by decide, by decide +kernel⟩ (by decide), List.forall_mem_cons.mpr ⟨cl_virtual (y := y_Mo_head) (ci := 13) rfl rfl ⟨_, _, rfl⟩ (by decide +kernel) h_Mo_head wm_3049 wm_9 wm_3046 wm_3048 wv_13_9 ⟨by decide, by decide, by decide +kernel⟩ (by decide), List.forall_mem_cons.mpr ⟨cl_virtual (y := y_Mo_edges) (ci := 13) rfl rfl ⟨_, _, rfl⟩ (by decide +kernel) h_Mo_edges wm_3037 wm_9 wm_3034 wm_3036 wv_13_6 ⟨by decide, by decide, by decide +kernel⟩ (by decide), List.forall_mem_cons.mpr ⟨cl_virtual (y := y_Mo_nodes) (ci := 13) rfl rfl ⟨_, _, rfl⟩ (by decide +kernel) h_Mo_nodes wm_3025 wm_9 wm_3022 wm_3024 wv_13_3 ⟨by decide, by decide, by decide +kernel⟩ (by decide), List.forall_mem_nil _⟩⟩⟩⟩⟩, List.forall_mem_cons.mpr ⟨kx_Mo_1_546, List.forall_mem_nil _⟩, List.forall_mem_nil _⟩ (by decide +kernel)
def n_Mo_nearer_an : List an_T := [(8, [(0, (2, 0, 0, [139])), (1, (0, -1, 23, [])), (2, (0, 0, 23, [])), (3, (0, 0, 24, [])), (4, (0, -1000000, 2147483647, [])), (5, (0, 0, 24, []))], [], (0, 0), [(0, 0, 99992), (1, 5, 24), (0, 0, 100000), (0, 0, 0), (0, 0, 0)], [], [], [], 0, [], []), (30, [(0, (2, 0, 0, [139])), (1, (0, -1, 23, [])), (2, (0, 0, 23, [])), (3, (0, 0, 24, [])), (4, (0, -1000000, 2147483647, [])), (5, (0, 0, 23, [])), (6, (0, -1000000, 2147483647, [])), (7, (0, -2147483648, 1000000, [])), (8, (0, 0, 24, []))], [], (0, 0), [(0, 0, 99992), (1, 5, 24), (0, 0, 99970), (1, 8, 24), (0, 0, 100000)], [], [], [], 0, [], []), (174, [(0, (2, 0, 0, [139])), (1, (0, -1, 23, [])), (2, (0, 0, 23, [])), (3, (0, 0, 24, [])), (4, (0, -1000000, 2147483647, [])), (5, (0, 0, 24, []))], [], (0, 0), [(0, 0, 99826), (1, 5, 24), (0, 0, 100000), (0, 0, 0), (0, 0, 0)], [], [], [], 0, [], [])]
def t_Mo_nearer_ct : ct_L := [(0, 547, e_Mo_min), (0, 855, e_Mo_max), (1, 475, e_Mo_nodes), (1, 954, e_Mo_isUnder), (1, 957, e_Mo_isAhead)]
set_option maxRecDepth 100000 in
theorem c_Mo_nearer {l : Launch} {D : va_G} {kA : Nat → ClassId} (h_Mo_isAhead : ct_ok l D kA GG y_Mo_isAhead z_Mo_isAhead e_Mo_isAhead) (h_Mo_isUnder : ct_ok l D kA GG y_Mo_isUnder z_Mo_isUnder e_Mo_isUnder) (h_Mo_max : ct_ok l D kA GG y_Mo_max z_Mo_max e_Mo_max) (h_Mo_min : ct_ok l D kA GG y_Mo_min z_Mo_min e_Mo_min) (h_Mo_nodes : ct_ok l D kA GG y_Mo_nodes z_Mo_nodes e_Mo_nodes) : ct_ok l D kA GG y_Mo_nearer z_Mo_nearer e_Mo_nearer := chk_all_ok (FT := [(29, 13, 16), (159, 13, 74), (293, 13, 128)]) (PT := []) (CT := t_Mo_nearer_ct) (KT := [(1, 546, .int (1000000), (0, 1000000, 1000000, [])), (1, 776, .int (Int32.ofInt (-1000000)), (0, -1000000, -1000000, []))]) (NT := []) (AN := n_Mo_nearer_an) (OT := []) 5 556 (List.forall_mem_nil _) (by decide +kernel) ⟨List.forall_mem_cons.mpr ⟨gf_Mo_29, List.forall_mem_cons.mpr ⟨gf_Mo_159, List.forall_mem_cons.mpr ⟨gf_Mo_293, List.forall_mem_nil _⟩⟩⟩, List.forall_mem_nil _, List.forall_mem_cons.mpr ⟨cl_static (y := y_Mo_min) h_Mo_min wm_3174 wm_9 wm_3172 wm_3173 ⟨by decide, by decide, by decide +kernel⟩ (by decide), List.forall_mem_cons.mpr ⟨cl_static (y := y_Mo_max) h_Mo_max wm_3430 wm_9 wm_3428 wm_3429 ⟨by decide, by decide, by decide +kernel⟩ (by decide), List.forall_mem_cons.mpr ⟨cl_virtual (y := y_Mo_nodes) (ci := 13) rfl rfl ⟨_, _, rfl⟩ (by decide +kernel) h_Mo_nodes wm_3025 wm_9 wm_3022 wm_3024 wv_13_3 ⟨by decide, by decide, by decide +kernel⟩ (by decide), List.forall_mem_cons.mpr ⟨cl_virtual (y := y_Mo_isUnder) (ci := 13) rfl rfl ⟨_, _, rfl⟩ (by decide +kernel) h_Mo_isUnder wm_3576 wm_9 wm_3573 wm_3575 wv_20_13 ⟨by decide, by decide, by decide +kernel⟩ (by decide), List.forall_mem_cons.mpr ⟨cl_virtual (y := y_Mo_isAhead) (ci := 13) rfl rfl ⟨_, _, rfl⟩ (by decide +kernel) h_Mo_isAhead wm_3580 wm_9 wm_3577 wm_3579 wv_20_14 ⟨by decide, by decide, by decide +kernel⟩ (by decide), List.forall_mem_nil _⟩⟩⟩⟩⟩, List.forall_mem_cons.mpr ⟨kx_Mo_1_546, List.forall_mem_cons.mpr ⟨kx_Mo_1_776, List.forall_mem_nil _⟩⟩, List.forall_mem_nil _⟩ (by decide +kernel)
def n_Mo_reaching_an : List an_T := [(7, [(0, (2, 0, 0, [139])), (1, (0, 0, 1, [])), (2, (0, 0, 24, [])), (3, (0, 0, 576, []))], [], (0, 0), [(0, 0, 99993), (1, 3, 576), (0, 0, 100000), (0, 0, 0), (0, 0, 0), (0, 0, 0), (0, 0, 0)], [], [], [], 0, [], []), (29, [(0, (2, 0, 0, [139])), (1, (0, 0, 1, [])), (2, (0, 0, 24, [])), (3, (0, 0, 24, []))], [], (0, 0), [(0, 0, 99971), (1, 3, 24), (0, 0, 100000), (0, 0, 0), (0, 0, 0), (0, 0, 0), (0, 0, 0)], [], [], [], 0, [], []), (54, [(0, (2, 0, 0, [139])), (1, (0, 0, 1, [])), (2, (0, 0, 24, [])), (3, (0, 0, 48, []))], [], (0, 0), [(0, 0, 99946), (1, 3, 48), (0, 0, 100000), (0, 0, 0), (0, 0, 0), (0, 0, 0), (0, 0, 0)], [], [], [], 0, [], []), (122, [(0, (2, 0, 0, [139])), (1, (0, 0, 1, [])), (2, (0, 0, 24, [])), (3, (0, 0, 24, []))], [], (0, 0), [(0, 0, 99878), (1, 3, 24), (0, 0, 100000), (0, 0, 0), (0, 0, 0), (0, 0, 0), (0, 0, 0)], [], [], [], 0, [], []), (130, [(0, (2, 0, 0, [139])), (1, (0, 0, 1, [])), (2, (0, 1, 24, [])), (3, (0, 0, 23, [])), (4, (0, 0, 24, []))], [], (0, 0), [(0, 0, 99878), (1, 3, 24), (0, 0, 99870), (1, 4, 24), (0, 0, 100000), (0, 0, 0), (0, 0, 0)], [], [], [], 0, [], []), (139, [(0, (2, 0, 0, [139])), (1, (0, 0, 1, [])), (2, (0, 1, 24, [])), (3, (0, 0, 23, [])), (4, (0, 0, 23, [])), (5, (0, 0, 24, []))], [], (0, 0), [(0, 0, 99878), (1, 3, 24), (0, 0, 99870), (1, 4, 24), (0, 0, 99861), (1, 5, 24), (0, 0, 100000)], [], [], [], 0, [], [])]
def t_Mo_reaching_ct : ct_L := [(1, 394, e_Mo_tail), (1, 398, e_Mo_head), (1, 401, e_Mo_edges), (1, 475, e_Mo_nodes), (1, 553, e_Mo_one)]
set_option maxRecDepth 100000 in
theorem c_Mo_reaching {l : Launch} {D : va_G} {kA : Nat → ClassId} (h_Mo_edges : ct_ok l D kA GG y_Mo_edges z_Mo_edges e_Mo_edges) (h_Mo_head : ct_ok l D kA GG y_Mo_head z_Mo_head e_Mo_head) (h_Mo_nodes : ct_ok l D kA GG y_Mo_nodes z_Mo_nodes e_Mo_nodes) (h_Mo_one : ct_ok l D kA GG y_Mo_one z_Mo_one e_Mo_one) (h_Mo_tail : ct_ok l D kA GG y_Mo_tail z_Mo_tail e_Mo_tail) : ct_ok l D kA GG y_Mo_reaching z_Mo_reaching e_Mo_reaching := chk_all_ok (FT := [(44, 13, 21)]) (PT := []) (CT := t_Mo_reaching_ct) (KT := []) (NT := []) (AN := n_Mo_reaching_an) (OT := []) 7 588 (List.forall_mem_nil _) (by decide +kernel) ⟨List.forall_mem_cons.mpr ⟨gf_Mo_44, List.forall_mem_nil _⟩, List.forall_mem_nil _, List.forall_mem_cons.mpr ⟨cl_virtual (y := y_Mo_tail) (ci := 13) rfl rfl ⟨_, _, rfl⟩ (by decide +kernel) h_Mo_tail wm_3045 wm_9 wm_3042 wm_3044 wv_13_8 ⟨by decide, by decide, by decide +kernel⟩ (by decide), List.forall_mem_cons.mpr ⟨cl_virtual (y := y_Mo_head) (ci := 13) rfl rfl ⟨_, _, rfl⟩ (by decide +kernel) h_Mo_head wm_3049 wm_9 wm_3046 wm_3048 wv_13_9 ⟨by decide, by decide, by decide +kernel⟩ (by decide), List.forall_mem_cons.mpr ⟨cl_virtual (y := y_Mo_edges) (ci := 13) rfl rfl ⟨_, _, rfl⟩ (by decide +kernel) h_Mo_edges wm_3037 wm_9 wm_3034 wm_3036 wv_13_6 ⟨by decide, by decide, by decide +kernel⟩ (by decide), List.forall_mem_cons.mpr ⟨cl_virtual (y := y_Mo_nodes) (ci := 13) rfl rfl ⟨_, _, rfl⟩ (by decide +kernel) h_Mo_nodes wm_3025 wm_9 wm_3022 wm_3024 wv_13_3 ⟨by decide, by decide, by decide +kernel⟩ (by decide), List.forall_mem_cons.mpr ⟨cl_virtual (y := y_Mo_one) (ci := 13) rfl rfl ⟨_, _, rfl⟩ (by decide +kernel) h_Mo_one wm_3299 wm_9 wm_3296 wm_3298 wv_16_15 ⟨by decide, by decide, by decide +kernel⟩ (by decide), List.forall_mem_nil _⟩⟩⟩⟩⟩, List.forall_mem_nil _, List.forall_mem_nil _⟩ (by decide +kernel)
def n_Dr_isStruck_an : List an_T := [(2, [(0, (2, 0, 0, [0])), (1, (0, 0, 47, [])), (2, (0, 0, 23, [])), (3, (0, 0, 25, []))], [], (0, 0), [(0, 0, 99998), (1, 3, 25), (0, 0, 100000)], [], [], [], 0, [], [])]
def t_Dr_isStruck_ct : ct_L := [(1, 206, e_Dr_isOnPiece)]
set_option maxRecDepth 100000 in
theorem c_Dr_isStruck {l : Launch} {D : va_G} {kA : Nat → ClassId} (h_Dr_isOnPiece : ct_ok l D kA GG y_Dr_isOnPiece z_Dr_isOnPiece e_Dr_isOnPiece) : ct_ok l D kA GG y_Dr_isStruck z_Dr_isStruck e_Dr_isStruck := chk_all_ok (FT := [(15, 0, 2), (19, 0, 3), (22, 0, 4)]) (PT := []) (CT := t_Dr_isStruck_ct) (KT := []) (NT := []) (AN := n_Dr_isStruck_an) (OT := []) 3 200 (List.forall_mem_nil _) (by decide +kernel) ⟨List.forall_mem_cons.mpr ⟨gf_Dr_15, List.forall_mem_cons.mpr ⟨gf_Dr_19, List.forall_mem_cons.mpr ⟨gf_Dr_22, List.forall_mem_nil _⟩⟩⟩, List.forall_mem_nil _, List.forall_mem_cons.mpr ⟨cl_virtual (y := y_Dr_isOnPiece) (ci := 0) rfl rfl ⟨_, _, rfl⟩ (by decide +kernel) h_Dr_isOnPiece wm_2034 wm_8 wm_2031 wm_2033 wv_9_15 ⟨by decide, by decide, by decide +kernel⟩ (by decide), List.forall_mem_nil _⟩, List.forall_mem_nil _, List.forall_mem_nil _⟩ (by decide +kernel)
def n_Dr_wholeArea_an : List an_T := []
def t_Dr_wholeArea_ct : ct_L := [(1, 214, e_Dr_measure)]
set_option maxRecDepth 100000 in
theorem c_Dr_wholeArea {l : Launch} {D : va_G} {kA : Nat → ClassId} (h_Dr_measure : ct_ok l D kA GG y_Dr_measure z_Dr_measure e_Dr_measure) : ct_ok l D kA GG y_Dr_wholeArea z_Dr_wholeArea e_Dr_wholeArea := chk_all_ok (FT := [(62, 0, 17), (65, 0, 18), (68, 0, 19), (71, 0, 20)]) (PT := []) (CT := t_Dr_wholeArea_ct) (KT := []) (NT := []) (AN := n_Dr_wholeArea_an) (OT := []) 0 200 (List.forall_mem_nil _) (by decide +kernel) ⟨List.forall_mem_cons.mpr ⟨gf_Dr_62, List.forall_mem_cons.mpr ⟨gf_Dr_65, List.forall_mem_cons.mpr ⟨gf_Dr_68, List.forall_mem_cons.mpr ⟨gf_Dr_71, List.forall_mem_nil _⟩⟩⟩⟩, List.forall_mem_nil _, List.forall_mem_cons.mpr ⟨cl_virtual (y := y_Dr_measure) (ci := 0) rfl rfl ⟨_, _, rfl⟩ (by decide +kernel) h_Dr_measure wm_2066 wm_8 wm_2063 wm_2064 wm_2065 ⟨by decide, by decide, by decide +kernel⟩ (by decide), List.forall_mem_nil _⟩, List.forall_mem_nil _, List.forall_mem_nil _⟩ (by decide +kernel)
def n_St_solve_an : List an_T := [(10, [(0, (2, 0, 0, [10])), (1, (0, 0, 1000000, []))], [], (0, 0), [(0, 0, 99990), (1, 1, 1000000), (0, 0, 100000)], [], [], [], 0, [], []), (50, [(0, (2, 0, 0, [10])), (1, (0, 0, 73, []))], [], (0, 0), [(0, 0, 99950), (1, 1, 73), (0, 0, 100000)], [], [], [], 0, [], [])]
def t_St_solve_ct : ct_L := [(1, 52, e_St_findRing), (1, 56, e_St_sendRound), (1, 60, e_St_raise), (18, 45, e_jArr_fill1_v39), (138, 45, e_jArr_fill1_v39)]
set_option maxRecDepth 100000 in
theorem c_St_solve {l : Launch} {D : va_G} {kA : Nat → ClassId} (h_St_findRing : ct_ok l D kA GG y_St_findRing z_St_findRing e_St_findRing) (h_St_raise : ct_ok l D kA GG y_St_raise z_St_raise e_St_raise) (h_St_sendRound : ct_ok l D kA GG y_St_sendRound z_St_sendRound e_St_sendRound) : ct_ok l D kA GG y_St_solve z_St_solve e_St_solve := chk_all_ok (FT := [(9, 10, 0), (31, 10, 6)]) (PT := []) (CT := t_St_solve_ct) (KT := [(0, 51, .int (1000000), (0, 1000000, 1000000, []))]) (NT := []) (AN := n_St_solve_an) (OT := []) 3 200 (List.forall_mem_nil _) (by decide +kernel) ⟨List.forall_mem_cons.mpr ⟨gf_St_9, List.forall_mem_cons.mpr ⟨gf_St_31, List.forall_mem_nil _⟩⟩, List.forall_mem_nil _, List.forall_mem_cons.mpr ⟨cl_virtual (y := y_St_findRing) (ci := 10) rfl rfl ⟨_, _, rfl⟩ (by decide +kernel) h_St_findRing wm_1348 wm_19 wm_1345 wm_1347 wv_4_12 ⟨by decide, by decide, by decide +kernel⟩ (by decide), List.forall_mem_cons.mpr ⟨cl_virtual (y := y_St_sendRound) (ci := 10) rfl rfl ⟨_, _, rfl⟩ (by decide +kernel) h_St_sendRound wm_1360 wm_19 wm_1357 wm_1359 wv_4_15 ⟨by decide, by decide, by decide +kernel⟩ (by decide), List.forall_mem_cons.mpr ⟨cl_virtual (y := y_St_raise) (ci := 10) rfl rfl ⟨_, _, rfl⟩ (by decide +kernel) h_St_raise wm_1352 wm_19 wm_1349 wm_1351 wv_4_13 ⟨by decide, by decide, by decide +kernel⟩ (by decide), List.forall_mem_cons.mpr ⟨cl_static (y := y_jArr_fill1) c_jArr_fill1_v39 wm_55 wm_4 wm_1343 wm_54 ⟨by decide, by decide, by decide +kernel⟩ (by decide), List.forall_mem_cons.mpr ⟨cl_static (y := y_jArr_fill1) c_jArr_fill1_v39 wm_55 wm_4 wm_1343 wm_54 ⟨by decide, by decide, by decide +kernel⟩ (by decide), List.forall_mem_nil _⟩⟩⟩⟩⟩, List.forall_mem_cons.mpr ⟨kx_St_0_51, List.forall_mem_nil _⟩, List.forall_mem_nil _⟩ (by decide +kernel)
def n_Mo_at2_an : List an_T := []
def t_Mo_at2_ct : ct_L := [(0, 387, e_Mo_in), (0, 521, e_Mo_isPlace), (1, 401, e_Mo_edges), (1, 475, e_Mo_nodes), (1, 527, e_Mo_take)]
set_option maxRecDepth 100000 in
theorem c_Mo_at2 {l : Launch} {D : va_G} {kA : Nat → ClassId} (h_Mo_edges : ct_ok l D kA GG y_Mo_edges z_Mo_edges e_Mo_edges) (h_Mo_in : ct_ok l D kA GG y_Mo_in z_Mo_in e_Mo_in) (h_Mo_isPlace : ct_ok l D kA GG y_Mo_isPlace z_Mo_isPlace e_Mo_isPlace) (h_Mo_nodes : ct_ok l D kA GG y_Mo_nodes z_Mo_nodes e_Mo_nodes) (h_Mo_take : ct_ok l D kA GG y_Mo_take z_Mo_take e_Mo_take) : ct_ok l D kA GG y_Mo_at2 z_Mo_at2 e_Mo_at2 := chk_all_ok (FT := [(120, 13, 61), (123, 13, 62), (126, 13, 63), (129, 13, 64), (132, 13, 65), (135, 13, 66)]) (PT := []) (CT := t_Mo_at2_ct) (KT := [(1, 775, .int (Int32.ofInt (-2147483648)), (0, -2147483648, -2147483648, []))]) (NT := []) (AN := n_Mo_at2_an) (OT := []) 0 584 (List.forall_mem_nil _) (by decide +kernel) ⟨List.forall_mem_cons.mpr ⟨gf_Mo_120, List.forall_mem_cons.mpr ⟨gf_Mo_123, List.forall_mem_cons.mpr ⟨gf_Mo_126, List.forall_mem_cons.mpr ⟨gf_Mo_129, List.forall_mem_cons.mpr ⟨gf_Mo_132, List.forall_mem_cons.mpr ⟨gf_Mo_135, List.forall_mem_nil _⟩⟩⟩⟩⟩⟩, List.forall_mem_nil _, List.forall_mem_cons.mpr ⟨cl_static (y := y_Mo_in) h_Mo_in wm_2971 wm_9 wm_2969 wm_2970 ⟨by decide, by decide, by decide +kernel⟩ (by decide), List.forall_mem_cons.mpr ⟨cl_static (y := y_Mo_isPlace) h_Mo_isPlace wm_2978 wm_9 wm_2976 wm_2977 ⟨by decide, by decide, by decide +kernel⟩ (by decide), List.forall_mem_cons.mpr ⟨cl_virtual (y := y_Mo_edges) (ci := 13) rfl rfl ⟨_, _, rfl⟩ (by decide +kernel) h_Mo_edges wm_3037 wm_9 wm_3034 wm_3036 wv_13_6 ⟨by decide, by decide, by decide +kernel⟩ (by decide), List.forall_mem_cons.mpr ⟨cl_virtual (y := y_Mo_nodes) (ci := 13) rfl rfl ⟨_, _, rfl⟩ (by decide +kernel) h_Mo_nodes wm_3025 wm_9 wm_3022 wm_3024 wv_13_3 ⟨by decide, by decide, by decide +kernel⟩ (by decide), List.forall_mem_cons.mpr ⟨cl_virtual (y := y_Mo_take) (ci := 13) rfl rfl ⟨_, _, rfl⟩ (by decide +kernel) h_Mo_take wm_3091 wm_9 wm_3088 wm_3090 wv_14_2 ⟨by decide, by decide, by decide +kernel⟩ (by decide), List.forall_mem_nil _⟩⟩⟩⟩⟩, List.forall_mem_cons.mpr ⟨kx_Mo_1_775, List.forall_mem_nil _⟩, List.forall_mem_nil _⟩ (by decide +kernel)
def o_Mo_isInCore_0 : or_T := (25, 6, [(0, (2, 0, 0, [139])), (5, (0, 1, 1, []))], [], [], [(0, 0, 51, [])], [(20, [6, 0, 5], [1, 22, 25, 0, 2])], [], [])
theorem oo_Mo_isInCore_0 {kA : Nat → ClassId} : or_ok kA GG o_Mo_isInCore_0 := by
  intro A ta ws vs hD hth hl hk hds hf
  have hl : vs.length = 6 := hl
  have hk : ∀ q ∈ ([(0, (2, 0, 0, [139])), (5, (0, 1, 1, []))] : List (Nat × tv_T)), tv_ok ta q.2 (n_v vs q.1) := hk
  obtain ⟨t0, hk⟩ := List.forall_mem_cons.mp hk
  have t0 : tv_ok ta (2, 0, 0, [139]) (n_v vs 0) := t0
  have r0 : ta (v_ad (n_v vs 0)) = some 139 := tv_rg t0
  obtain ⟨t5, hk⟩ := List.forall_mem_cons.mp hk
  have t5 : tv_ok ta (0, 1, 1, []) (n_v vs 5) := t5
  have k5 : 1 ≤ v_iv (n_v vs 5) ∧ v_iv (n_v vs 5) ≤ 1 := tv_rng t5
  have ra : ta (w_ar ws (n_v vs 0) 22) = some 151 := tv_rg (th_fd hD hth r0 (g := GG_139) rfl (k := 22) (t := (2, 0, 0, [151])) rfl rfl)
  have bs := sum_bd (ws := ws) (a := w_ar ws (n_v vs 0) 22) (lo := 0) (hi := 1) (n := 25) (fun j hj => th_el hD hth ra (kd := 2) (n := 25) (m := 25) (rs := []) (L := []) rfl (by decide) (by omega))
  obtain ⟨x, ex, hx⟩ := iv_ex (ta := ta) (lo := 0) (hi := 51) (z := 0 + 2 * w_sum ws (w_ar ws (n_v vs 0) 22) 25 + v_iv (n_v vs 5)) (by omega) (by omega) (by decide) (by decide)
  have ex2 : v_iv (Value.int x) = 0 + 2 * w_sum ws (w_ar ws (n_v vs 0) 22) 25 + v_iv (n_v vs 5) := ex
  have e_0 : n_v (vs ++ [Value.int x]) 0 = n_v vs 0 := n_v_old (by rw [hl]; decide)
  have e_5 : n_v (vs ++ [Value.int x]) 5 = n_v vs 5 := n_v_old (by rw [hl]; decide)
  have e_6 : n_v (vs ++ [Value.int x]) 6 = Value.int x := n_v_new hl
  have nf0 : fc_1 (20, [6, 0, 5], [1, 22, 25, 0, 2]) ws (vs ++ [Value.int x]) := by
    refine ⟨fun n hn => ?_, ?_⟩
    · have hn : n ∈ [6, 0, 5] := hn
      rw [List.length_append, hl]
      simp only [List.mem_cons, List.not_mem_nil, or_false] at hn
      show n < 6 + 1; omega
    · show v_iv (n_v (vs ++ [Value.int x]) 6) = 0 + 2 * w_sum ws (w_ar ws (n_v (vs ++ [Value.int x]) 0) 22) 25 + v_iv (n_v (vs ++ [Value.int x]) 5)
      rw [e_0]
      rw [e_5]
      rw [e_6]
      omega
  exact ⟨fun q hq => (by cases hq), [Value.int x], ag_one hx, List.forall_mem_cons.mpr ⟨⟨by decide, nf0⟩, (fun _ h => (by cases h))⟩, (fun _ h => (by cases h))⟩
def o_Mo_isInCore_1 : or_T := (34, 7, [(0, (2, 0, 0, [139])), (3, (0, 1, 1, [])), (4, (0, 0, 51, [])), (5, (0, 0, 0, []))], [(20, [4, 0, 3], [1, 22, 25, 0, 2])], [], [(0, 0, 51, [])], [(20, [7, 0, 5], [2, 22, 25, 0, 2])], [(7, 4, 0, 0)], [])
theorem oo_Mo_isInCore_1 {kA : Nat → ClassId} : or_ok kA GG o_Mo_isInCore_1 := by
  intro A ta ws vs hD hth hl hk hds hf
  have hl : vs.length = 7 := hl
  have hk : ∀ q ∈ ([(0, (2, 0, 0, [139])), (3, (0, 1, 1, [])), (4, (0, 0, 51, [])), (5, (0, 0, 0, []))] : List (Nat × tv_T)), tv_ok ta q.2 (n_v vs q.1) := hk
  obtain ⟨t0, hk⟩ := List.forall_mem_cons.mp hk
  have t0 : tv_ok ta (2, 0, 0, [139]) (n_v vs 0) := t0
  have r0 : ta (v_ad (n_v vs 0)) = some 139 := tv_rg t0
  obtain ⟨t3, hk⟩ := List.forall_mem_cons.mp hk
  have t3 : tv_ok ta (0, 1, 1, []) (n_v vs 3) := t3
  have k3 : 1 ≤ v_iv (n_v vs 3) ∧ v_iv (n_v vs 3) ≤ 1 := tv_rng t3
  obtain ⟨t4, hk⟩ := List.forall_mem_cons.mp hk
  have t4 : tv_ok ta (0, 0, 51, []) (n_v vs 4) := t4
  have k4 : 0 ≤ v_iv (n_v vs 4) ∧ v_iv (n_v vs 4) ≤ 51 := tv_rng t4
  obtain ⟨t5, hk⟩ := List.forall_mem_cons.mp hk
  have t5 : tv_ok ta (0, 0, 0, []) (n_v vs 5) := t5
  have k5 : 0 ≤ v_iv (n_v vs 5) ∧ v_iv (n_v vs 5) ≤ 0 := tv_rng t5
  have hf : fc_ok [(20, [4, 0, 3], [1, 22, 25, 0, 2])] ta ws vs := hf
  obtain ⟨f0, hf⟩ := fc_un (by decide) hf
  have f0 : v_iv (n_v vs 4) = 0 + 2 * w_sum ws (w_ar ws (n_v vs 0) 22) 25 + v_iv (n_v vs 3) := f0
  have key : 0 + 2 * w_sum ws (w_ar ws (n_v vs 0) 22) 25 + v_iv (n_v vs 5) + 1 ≤ v_iv (n_v vs 4) := by omega
  obtain ⟨x, ex, hx⟩ := iv_ex (ta := ta) (lo := 0) (hi := 51) (z := v_iv (n_v vs 4)) (by omega) (by omega) (by decide) (by decide)
  have ex2 : v_iv (Value.int x) = v_iv (n_v vs 4) := ex
  have e_0 : n_v (vs ++ [Value.int x]) 0 = n_v vs 0 := n_v_old (by rw [hl]; decide)
  have e_5 : n_v (vs ++ [Value.int x]) 5 = n_v vs 5 := n_v_old (by rw [hl]; decide)
  have e_7 : n_v (vs ++ [Value.int x]) 7 = Value.int x := n_v_new hl
  have nf0 : fc_1 (20, [7, 0, 5], [2, 22, 25, 0, 2]) ws (vs ++ [Value.int x]) := by
    refine ⟨fun n hn => ?_, ?_⟩
    · have hn : n ∈ [7, 0, 5] := hn
      rw [List.length_append, hl]
      simp only [List.mem_cons, List.not_mem_nil, or_false] at hn
      show n < 7 + 1; omega
    · show 0 + 2 * w_sum ws (w_ar ws (n_v (vs ++ [Value.int x]) 0) 22) 25 + v_iv (n_v (vs ++ [Value.int x]) 5) + 1 ≤ v_iv (n_v (vs ++ [Value.int x]) 7)
      rw [e_0]
      rw [e_5]
      rw [e_7]
      omega
  obtain ⟨x0, e0, _, _⟩ := tv_int t4 rfl
  have e1 : v_iv (n_v vs 4) = x0.toInt := by rw [e0]; rfl
  have ho : sy_ofs (vs ++ [Value.int x]) (7, 4, 0, 0) := by
    refine ⟨x, x0, by rw [List.getElem?_append_right (by rw [hl]; decide), hl]; rfl, ?_, ?_, ?_⟩
    · rw [List.getElem?_append_left (by rw [hl]; decide)]; exact n_v_some (by rw [hl]; decide) e0
    · show x0.toInt + 0 ≤ x.toInt; omega
    · show x.toInt ≤ x0.toInt + 0; omega
  exact ⟨fun q hq => (by cases hq), [Value.int x], ag_one hx, List.forall_mem_cons.mpr ⟨⟨by decide, nf0⟩, (fun _ h => (by cases h))⟩, List.forall_mem_cons.mpr ⟨ho, (fun _ h => (by cases h))⟩⟩
def o_Mo_isInCore_2 : or_T := (25, 7, [(0, (2, 0, 0, [139])), (3, (0, 0, 1, [])), (5, (0, 0, 51, []))], [(20, [5, 0, 3], [2, 22, 25, 0, 2])], [], [(0, 0, 51, [])], [(20, [7, 0, 3], [1, 22, 25, 0, 2])], [(7, 5, -1000000000000, -1)], [])
theorem oo_Mo_isInCore_2 {kA : Nat → ClassId} : or_ok kA GG o_Mo_isInCore_2 := by
  intro A ta ws vs hD hth hl hk hds hf
  have hl : vs.length = 7 := hl
  have hk : ∀ q ∈ ([(0, (2, 0, 0, [139])), (3, (0, 0, 1, [])), (5, (0, 0, 51, []))] : List (Nat × tv_T)), tv_ok ta q.2 (n_v vs q.1) := hk
  obtain ⟨t0, hk⟩ := List.forall_mem_cons.mp hk
  have t0 : tv_ok ta (2, 0, 0, [139]) (n_v vs 0) := t0
  have r0 : ta (v_ad (n_v vs 0)) = some 139 := tv_rg t0
  obtain ⟨t3, hk⟩ := List.forall_mem_cons.mp hk
  have t3 : tv_ok ta (0, 0, 1, []) (n_v vs 3) := t3
  have k3 : 0 ≤ v_iv (n_v vs 3) ∧ v_iv (n_v vs 3) ≤ 1 := tv_rng t3
  obtain ⟨t5, hk⟩ := List.forall_mem_cons.mp hk
  have t5 : tv_ok ta (0, 0, 51, []) (n_v vs 5) := t5
  have k5 : 0 ≤ v_iv (n_v vs 5) ∧ v_iv (n_v vs 5) ≤ 51 := tv_rng t5
  have hf : fc_ok [(20, [5, 0, 3], [2, 22, 25, 0, 2])] ta ws vs := hf
  obtain ⟨f0, hf⟩ := fc_un (by decide) hf
  have f0 : 0 + 2 * w_sum ws (w_ar ws (n_v vs 0) 22) 25 + v_iv (n_v vs 3) + 1 ≤ v_iv (n_v vs 5) := f0
  have ra : ta (w_ar ws (n_v vs 0) 22) = some 151 := tv_rg (th_fd hD hth r0 (g := GG_139) rfl (k := 22) (t := (2, 0, 0, [151])) rfl rfl)
  have bs := sum_bd (ws := ws) (a := w_ar ws (n_v vs 0) 22) (lo := 0) (hi := 1) (n := 25) (fun j hj => th_el hD hth ra (kd := 2) (n := 25) (m := 25) (rs := []) (L := []) rfl (by decide) (by omega))
  obtain ⟨x, ex, hx⟩ := iv_ex (ta := ta) (lo := 0) (hi := 51) (z := 0 + 2 * w_sum ws (w_ar ws (n_v vs 0) 22) 25 + v_iv (n_v vs 3)) (by omega) (by omega) (by decide) (by decide)
  have ex2 : v_iv (Value.int x) = 0 + 2 * w_sum ws (w_ar ws (n_v vs 0) 22) 25 + v_iv (n_v vs 3) := ex
  have e_0 : n_v (vs ++ [Value.int x]) 0 = n_v vs 0 := n_v_old (by rw [hl]; decide)
  have e_3 : n_v (vs ++ [Value.int x]) 3 = n_v vs 3 := n_v_old (by rw [hl]; decide)
  have e_7 : n_v (vs ++ [Value.int x]) 7 = Value.int x := n_v_new hl
  have nf0 : fc_1 (20, [7, 0, 3], [1, 22, 25, 0, 2]) ws (vs ++ [Value.int x]) := by
    refine ⟨fun n hn => ?_, ?_⟩
    · have hn : n ∈ [7, 0, 3] := hn
      rw [List.length_append, hl]
      simp only [List.mem_cons, List.not_mem_nil, or_false] at hn
      show n < 7 + 1; omega
    · show v_iv (n_v (vs ++ [Value.int x]) 7) = 0 + 2 * w_sum ws (w_ar ws (n_v (vs ++ [Value.int x]) 0) 22) 25 + v_iv (n_v (vs ++ [Value.int x]) 3)
      rw [e_0]
      rw [e_3]
      rw [e_7]
      omega
  obtain ⟨x0, e0, _, _⟩ := tv_int t5 rfl
  have e1 : v_iv (n_v vs 5) = x0.toInt := by rw [e0]; rfl
  have ho : sy_ofs (vs ++ [Value.int x]) (7, 5, -1000000000000, -1) := by
    refine ⟨x, x0, by rw [List.getElem?_append_right (by rw [hl]; decide), hl]; rfl, ?_, ?_, ?_⟩
    · rw [List.getElem?_append_left (by rw [hl]; decide)]; exact n_v_some (by rw [hl]; decide) e0
    · show x0.toInt + (-1000000000000) ≤ x.toInt; omega
    · show x.toInt ≤ x0.toInt + (-1); omega
  exact ⟨fun q hq => (by cases hq), [Value.int x], ag_one hx, List.forall_mem_cons.mpr ⟨⟨by decide, nf0⟩, (fun _ h => (by cases h))⟩, List.forall_mem_cons.mpr ⟨ho, (fun _ h => (by cases h))⟩⟩
def o_Mo_isInCore_3 : or_T := (62, 11, [(0, (2, 0, 0, [139])), (3, (0, 0, 1, [])), (4, (0, 0, 23, [])), (5, (0, 0, 51, [])), (7, (2, 0, 0, [151])), (8, (0, 1, 1, []))], [(10, [8, 7, 4], []), (9, [7, 0], [22]), (20, [5, 0, 3], [2, 22, 25, 0, 2])], [], [(0, 0, 51, [])], [(20, [11, 0, 3], [2, 22, 25, 0, 2]), (20, [0, 4], [5, 22, 1])], [(11, 5, 0, 0)], [])
theorem oo_Mo_isInCore_3 {kA : Nat → ClassId} : or_ok kA GG o_Mo_isInCore_3 := by
  intro A ta ws vs hD hth hl hk hds hf
  have hl : vs.length = 11 := hl
  have hk : ∀ q ∈ ([(0, (2, 0, 0, [139])), (3, (0, 0, 1, [])), (4, (0, 0, 23, [])), (5, (0, 0, 51, [])), (7, (2, 0, 0, [151])), (8, (0, 1, 1, []))] : List (Nat × tv_T)), tv_ok ta q.2 (n_v vs q.1) := hk
  obtain ⟨t0, hk⟩ := List.forall_mem_cons.mp hk
  have t0 : tv_ok ta (2, 0, 0, [139]) (n_v vs 0) := t0
  have r0 : ta (v_ad (n_v vs 0)) = some 139 := tv_rg t0
  obtain ⟨t3, hk⟩ := List.forall_mem_cons.mp hk
  have t3 : tv_ok ta (0, 0, 1, []) (n_v vs 3) := t3
  have k3 : 0 ≤ v_iv (n_v vs 3) ∧ v_iv (n_v vs 3) ≤ 1 := tv_rng t3
  obtain ⟨t4, hk⟩ := List.forall_mem_cons.mp hk
  have t4 : tv_ok ta (0, 0, 23, []) (n_v vs 4) := t4
  have k4 : 0 ≤ v_iv (n_v vs 4) ∧ v_iv (n_v vs 4) ≤ 23 := tv_rng t4
  obtain ⟨t5, hk⟩ := List.forall_mem_cons.mp hk
  have t5 : tv_ok ta (0, 0, 51, []) (n_v vs 5) := t5
  have k5 : 0 ≤ v_iv (n_v vs 5) ∧ v_iv (n_v vs 5) ≤ 51 := tv_rng t5
  obtain ⟨t7, hk⟩ := List.forall_mem_cons.mp hk
  have t7 : tv_ok ta (2, 0, 0, [151]) (n_v vs 7) := t7
  have r7 : ta (v_ad (n_v vs 7)) = some 151 := tv_rg t7
  obtain ⟨t8, hk⟩ := List.forall_mem_cons.mp hk
  have t8 : tv_ok ta (0, 1, 1, []) (n_v vs 8) := t8
  have k8 : 1 ≤ v_iv (n_v vs 8) ∧ v_iv (n_v vs 8) ≤ 1 := tv_rng t8
  have hf : fc_ok [(10, [8, 7, 4], []), (9, [7, 0], [22]), (20, [5, 0, 3], [2, 22, 25, 0, 2])] ta ws vs := hf
  obtain ⟨f0, hf⟩ := fc_un (by decide) hf
  have f0 : v_iv (n_v vs 8) = w_el ws (v_ad (n_v vs 7)) (v_iv (n_v vs 4)).toNat := f0
  obtain ⟨f1, hf⟩ := fc_un (by decide) hf
  have f1 : n_v vs 7 = w_fd ws (v_ad (n_v vs 0)) 22 := f1
  obtain ⟨f2, hf⟩ := fc_un (by decide) hf
  have f2 : 0 + 2 * w_sum ws (w_ar ws (n_v vs 0) 22) 25 + v_iv (n_v vs 3) + 1 ≤ v_iv (n_v vs 5) := f2
  have key : 0 + 2 * w_sum ws (w_ar ws (n_v vs 0) 22) 25 + v_iv (n_v vs 3) + 1 ≤ v_iv (n_v vs 5) := by omega
  obtain ⟨x, ex, hx⟩ := iv_ex (ta := ta) (lo := 0) (hi := 51) (z := v_iv (n_v vs 5)) (by omega) (by omega) (by decide) (by decide)
  have ex2 : v_iv (Value.int x) = v_iv (n_v vs 5) := ex
  have e_0 : n_v (vs ++ [Value.int x]) 0 = n_v vs 0 := n_v_old (by rw [hl]; decide)
  have e_3 : n_v (vs ++ [Value.int x]) 3 = n_v vs 3 := n_v_old (by rw [hl]; decide)
  have e_4 : n_v (vs ++ [Value.int x]) 4 = n_v vs 4 := n_v_old (by rw [hl]; decide)
  have e_11 : n_v (vs ++ [Value.int x]) 11 = Value.int x := n_v_new hl
  have nf0 : fc_1 (20, [11, 0, 3], [2, 22, 25, 0, 2]) ws (vs ++ [Value.int x]) := by
    refine ⟨fun n hn => ?_, ?_⟩
    · have hn : n ∈ [11, 0, 3] := hn
      rw [List.length_append, hl]
      simp only [List.mem_cons, List.not_mem_nil, or_false] at hn
      show n < 11 + 1; omega
    · show 0 + 2 * w_sum ws (w_ar ws (n_v (vs ++ [Value.int x]) 0) 22) 25 + v_iv (n_v (vs ++ [Value.int x]) 3) + 1 ≤ v_iv (n_v (vs ++ [Value.int x]) 11)
      rw [e_0]
      rw [e_3]
      rw [e_11]
      omega
  have nf1 : fc_1 (20, [0, 4], [5, 22, 1]) ws (vs ++ [Value.int x]) := by
    refine ⟨fun n hn => ?_, ?_⟩
    · have hn : n ∈ [0, 4] := hn
      rw [List.length_append, hl]
      simp only [List.mem_cons, List.not_mem_nil, or_false] at hn
      show n < 11 + 1; omega
    · show w_el ws (w_ar ws (n_v (vs ++ [Value.int x]) 0) 22) (v_iv (n_v (vs ++ [Value.int x]) 4)).toNat = 1
      rw [e_0]
      rw [e_4]
      show w_el ws (v_ad (w_fd ws (v_ad (n_v vs 0)) 22)) (v_iv (n_v vs 4)).toNat = 1
      rw [← f1, ← f0]; omega
  obtain ⟨x0, e0, _, _⟩ := tv_int t5 rfl
  have e1 : v_iv (n_v vs 5) = x0.toInt := by rw [e0]; rfl
  have ho : sy_ofs (vs ++ [Value.int x]) (11, 5, 0, 0) := by
    refine ⟨x, x0, by rw [List.getElem?_append_right (by rw [hl]; decide), hl]; rfl, ?_, ?_, ?_⟩
    · rw [List.getElem?_append_left (by rw [hl]; decide)]; exact n_v_some (by rw [hl]; decide) e0
    · show x0.toInt + 0 ≤ x.toInt; omega
    · show x.toInt ≤ x0.toInt + 0; omega
  exact ⟨fun q hq => (by cases hq), [Value.int x], ag_one hx, List.forall_mem_cons.mpr ⟨⟨by decide, nf0⟩, List.forall_mem_cons.mpr ⟨⟨by decide, nf1⟩, (fun _ h => (by cases h))⟩⟩, List.forall_mem_cons.mpr ⟨ho, (fun _ h => (by cases h))⟩⟩
def o_Mo_isInCore_4 : or_T := (34, 13, [(0, (2, 0, 0, [139])), (3, (0, 0, 1, [])), (4, (0, 0, 23, [])), (7, (0, 0, 51, [])), (9, (2, 0, 0, [151])), (10, (0, 0, 0, [])), (11, (0, 1, 1, []))], [(100, [9, 4, 10], []), (9, [9, 0], [22]), (20, [7, 0, 3], [2, 22, 25, 0, 2]), (20, [0, 4], [5, 22, 1])], [], [(0, 0, 51, [])], [(20, [13, 0, 11], [2, 22, 25, 0, 2])], [(13, 7, 0, 0)], [])
theorem oo_Mo_isInCore_4 {kA : Nat → ClassId} : or_ok kA GG o_Mo_isInCore_4 := by
  intro A ta ws vs hD hth hl hk hds hf
  have hl : vs.length = 13 := hl
  have hk : ∀ q ∈ ([(0, (2, 0, 0, [139])), (3, (0, 0, 1, [])), (4, (0, 0, 23, [])), (7, (0, 0, 51, [])), (9, (2, 0, 0, [151])), (10, (0, 0, 0, [])), (11, (0, 1, 1, []))] : List (Nat × tv_T)), tv_ok ta q.2 (n_v vs q.1) := hk
  obtain ⟨t0, hk⟩ := List.forall_mem_cons.mp hk
  have t0 : tv_ok ta (2, 0, 0, [139]) (n_v vs 0) := t0
  have r0 : ta (v_ad (n_v vs 0)) = some 139 := tv_rg t0
  obtain ⟨t3, hk⟩ := List.forall_mem_cons.mp hk
  have t3 : tv_ok ta (0, 0, 1, []) (n_v vs 3) := t3
  have k3 : 0 ≤ v_iv (n_v vs 3) ∧ v_iv (n_v vs 3) ≤ 1 := tv_rng t3
  obtain ⟨t4, hk⟩ := List.forall_mem_cons.mp hk
  have t4 : tv_ok ta (0, 0, 23, []) (n_v vs 4) := t4
  have k4 : 0 ≤ v_iv (n_v vs 4) ∧ v_iv (n_v vs 4) ≤ 23 := tv_rng t4
  obtain ⟨t7, hk⟩ := List.forall_mem_cons.mp hk
  have t7 : tv_ok ta (0, 0, 51, []) (n_v vs 7) := t7
  have k7 : 0 ≤ v_iv (n_v vs 7) ∧ v_iv (n_v vs 7) ≤ 51 := tv_rng t7
  obtain ⟨t9, hk⟩ := List.forall_mem_cons.mp hk
  have t9 : tv_ok ta (2, 0, 0, [151]) (n_v vs 9) := t9
  have r9 : ta (v_ad (n_v vs 9)) = some 151 := tv_rg t9
  obtain ⟨t10, hk⟩ := List.forall_mem_cons.mp hk
  have t10 : tv_ok ta (0, 0, 0, []) (n_v vs 10) := t10
  have k10 : 0 ≤ v_iv (n_v vs 10) ∧ v_iv (n_v vs 10) ≤ 0 := tv_rng t10
  obtain ⟨t11, hk⟩ := List.forall_mem_cons.mp hk
  have t11 : tv_ok ta (0, 1, 1, []) (n_v vs 11) := t11
  have k11 : 1 ≤ v_iv (n_v vs 11) ∧ v_iv (n_v vs 11) ≤ 1 := tv_rng t11
  have hf : fc_ok [(100, [9, 4, 10], []), (9, [9, 0], [22]), (20, [7, 0, 3], [2, 22, 25, 0, 2]), (20, [0, 4], [5, 22, 1])] ta ws vs := hf
  obtain ⟨ta1, w1, le1, ⟨_, s1⟩, hf⟩ := fc_us (by decide) hf
  have s1 : (∀ b j, w_el ws b j = if b = v_ad (n_v vs 9) ∧ j = (v_iv (n_v vs 4)).toNat then v_iv (n_v vs 10) else w_el w1 b j) ∧ ∀ b k, w_fd ws b k = w_fd w1 b k := s1
  obtain ⟨f1, hf⟩ := fc_un (by decide) hf
  have f1 : n_v vs 9 = w_fd w1 (v_ad (n_v vs 0)) 22 := f1
  obtain ⟨f2, hf⟩ := fc_un (by decide) hf
  have f2 : 0 + 2 * w_sum w1 (w_ar w1 (n_v vs 0) 22) 25 + v_iv (n_v vs 3) + 1 ≤ v_iv (n_v vs 7) := f2
  obtain ⟨f3, hf⟩ := fc_un (by decide) hf
  have f3 : w_el w1 (w_ar w1 (n_v vs 0) 22) (v_iv (n_v vs 4)).toNat = 1 := f3
  have a9 : v_ad (n_v vs 9) = w_ar ws (n_v vs 0) 22 := by rw [f1]; show _ = v_ad (w_fd ws _ _); rw [s1.2]
  rw [a9] at s1
  have c22 := r9; rw [a9] at c22
  have t3 : w_ar w1 (n_v vs 0) 22 = w_ar ws (n_v vs 0) 22 := by show v_ad (w_fd w1 _ _) = v_ad (w_fd ws _ _); rw [s1.2]
  rw [t3] at f3
  have g1 := sum_set s1.1 (n := 25) (by omega)
  have t2 : w_ar w1 (n_v vs 0) 22 = w_ar ws (n_v vs 0) 22 := by show v_ad (w_fd w1 _ _) = v_ad (w_fd ws _ _); rw [s1.2]
  rw [t2] at f2
  have key : 0 + 2 * w_sum ws (w_ar ws (n_v vs 0) 22) 25 + v_iv (n_v vs 11) + 1 ≤ v_iv (n_v vs 7) := by omega
  obtain ⟨x, ex, hx⟩ := iv_ex (ta := ta) (lo := 0) (hi := 51) (z := v_iv (n_v vs 7)) (by omega) (by omega) (by decide) (by decide)
  have ex2 : v_iv (Value.int x) = v_iv (n_v vs 7) := ex
  have e_0 : n_v (vs ++ [Value.int x]) 0 = n_v vs 0 := n_v_old (by rw [hl]; decide)
  have e_11 : n_v (vs ++ [Value.int x]) 11 = n_v vs 11 := n_v_old (by rw [hl]; decide)
  have e_13 : n_v (vs ++ [Value.int x]) 13 = Value.int x := n_v_new hl
  have nf0 : fc_1 (20, [13, 0, 11], [2, 22, 25, 0, 2]) ws (vs ++ [Value.int x]) := by
    refine ⟨fun n hn => ?_, ?_⟩
    · have hn : n ∈ [13, 0, 11] := hn
      rw [List.length_append, hl]
      simp only [List.mem_cons, List.not_mem_nil, or_false] at hn
      show n < 13 + 1; omega
    · show 0 + 2 * w_sum ws (w_ar ws (n_v (vs ++ [Value.int x]) 0) 22) 25 + v_iv (n_v (vs ++ [Value.int x]) 11) + 1 ≤ v_iv (n_v (vs ++ [Value.int x]) 13)
      rw [e_0]
      rw [e_11]
      rw [e_13]
      omega
  obtain ⟨x0, e0, _, _⟩ := tv_int t7 rfl
  have e1 : v_iv (n_v vs 7) = x0.toInt := by rw [e0]; rfl
  have ho : sy_ofs (vs ++ [Value.int x]) (13, 7, 0, 0) := by
    refine ⟨x, x0, by rw [List.getElem?_append_right (by rw [hl]; decide), hl]; rfl, ?_, ?_, ?_⟩
    · rw [List.getElem?_append_left (by rw [hl]; decide)]; exact n_v_some (by rw [hl]; decide) e0
    · show x0.toInt + 0 ≤ x.toInt; omega
    · show x.toInt ≤ x0.toInt + 0; omega
  exact ⟨fun q hq => (by cases hq), [Value.int x], ag_one hx, List.forall_mem_cons.mpr ⟨⟨by decide, nf0⟩, (fun _ h => (by cases h))⟩, List.forall_mem_cons.mpr ⟨ho, (fun _ h => (by cases h))⟩⟩
def o_Mo_isInCore_5 : or_T := (34, 10, [(0, (2, 0, 0, [139])), (3, (0, 0, 1, [])), (7, (0, 0, 51, []))], [(20, [7, 0, 3], [2, 22, 25, 0, 2])], [], [(0, 0, 51, [])], [(20, [10, 0, 3], [2, 22, 25, 0, 2])], [(10, 7, 0, 0)], [])
theorem oo_Mo_isInCore_5 {kA : Nat → ClassId} : or_ok kA GG o_Mo_isInCore_5 := by
  intro A ta ws vs hD hth hl hk hds hf
  have hl : vs.length = 10 := hl
  have hk : ∀ q ∈ ([(0, (2, 0, 0, [139])), (3, (0, 0, 1, [])), (7, (0, 0, 51, []))] : List (Nat × tv_T)), tv_ok ta q.2 (n_v vs q.1) := hk
  obtain ⟨t0, hk⟩ := List.forall_mem_cons.mp hk
  have t0 : tv_ok ta (2, 0, 0, [139]) (n_v vs 0) := t0
  have r0 : ta (v_ad (n_v vs 0)) = some 139 := tv_rg t0
  obtain ⟨t3, hk⟩ := List.forall_mem_cons.mp hk
  have t3 : tv_ok ta (0, 0, 1, []) (n_v vs 3) := t3
  have k3 : 0 ≤ v_iv (n_v vs 3) ∧ v_iv (n_v vs 3) ≤ 1 := tv_rng t3
  obtain ⟨t7, hk⟩ := List.forall_mem_cons.mp hk
  have t7 : tv_ok ta (0, 0, 51, []) (n_v vs 7) := t7
  have k7 : 0 ≤ v_iv (n_v vs 7) ∧ v_iv (n_v vs 7) ≤ 51 := tv_rng t7
  have hf : fc_ok [(20, [7, 0, 3], [2, 22, 25, 0, 2])] ta ws vs := hf
  obtain ⟨f0, hf⟩ := fc_un (by decide) hf
  have f0 : 0 + 2 * w_sum ws (w_ar ws (n_v vs 0) 22) 25 + v_iv (n_v vs 3) + 1 ≤ v_iv (n_v vs 7) := f0
  have key : 0 + 2 * w_sum ws (w_ar ws (n_v vs 0) 22) 25 + v_iv (n_v vs 3) + 1 ≤ v_iv (n_v vs 7) := by omega
  obtain ⟨x, ex, hx⟩ := iv_ex (ta := ta) (lo := 0) (hi := 51) (z := v_iv (n_v vs 7)) (by omega) (by omega) (by decide) (by decide)
  have ex2 : v_iv (Value.int x) = v_iv (n_v vs 7) := ex
  have e_0 : n_v (vs ++ [Value.int x]) 0 = n_v vs 0 := n_v_old (by rw [hl]; decide)
  have e_3 : n_v (vs ++ [Value.int x]) 3 = n_v vs 3 := n_v_old (by rw [hl]; decide)
  have e_10 : n_v (vs ++ [Value.int x]) 10 = Value.int x := n_v_new hl
  have nf0 : fc_1 (20, [10, 0, 3], [2, 22, 25, 0, 2]) ws (vs ++ [Value.int x]) := by
    refine ⟨fun n hn => ?_, ?_⟩
    · have hn : n ∈ [10, 0, 3] := hn
      rw [List.length_append, hl]
      simp only [List.mem_cons, List.not_mem_nil, or_false] at hn
      show n < 10 + 1; omega
    · show 0 + 2 * w_sum ws (w_ar ws (n_v (vs ++ [Value.int x]) 0) 22) 25 + v_iv (n_v (vs ++ [Value.int x]) 3) + 1 ≤ v_iv (n_v (vs ++ [Value.int x]) 10)
      rw [e_0]
      rw [e_3]
      rw [e_10]
      omega
  obtain ⟨x0, e0, _, _⟩ := tv_int t7 rfl
  have e1 : v_iv (n_v vs 7) = x0.toInt := by rw [e0]; rfl
  have ho : sy_ofs (vs ++ [Value.int x]) (10, 7, 0, 0) := by
    refine ⟨x, x0, by rw [List.getElem?_append_right (by rw [hl]; decide), hl]; rfl, ?_, ?_, ?_⟩
    · rw [List.getElem?_append_left (by rw [hl]; decide)]; exact n_v_some (by rw [hl]; decide) e0
    · show x0.toInt + 0 ≤ x.toInt; omega
    · show x.toInt ≤ x0.toInt + 0; omega
  exact ⟨fun q hq => (by cases hq), [Value.int x], ag_one hx, List.forall_mem_cons.mpr ⟨⟨by decide, nf0⟩, (fun _ h => (by cases h))⟩, List.forall_mem_cons.mpr ⟨ho, (fun _ h => (by cases h))⟩⟩
def n_Mo_isInCore_an : List an_T := [(2, [(0, (2, 0, 0, [139])), (1, (0, 0, 23, [])), (2, (0, -2147483648, 2147483647, [])), (3, (0, 0, 24, []))], [], (0, 0), [(0, 0, 99998), (1, 3, 24), (0, 0, 100000), (0, 0, 0), (0, 0, 0), (0, 0, 0), (0, 0, 0)], [], [], [], 0, [], []), (25, [(0, (2, 0, 0, [139])), (1, (0, 0, 23, [])), (2, (0, -2147483648, 2147483647, [])), (3, (0, 0, 1, []))], [], (0, 0), [(0, 0, 99975), (2, 4, 0), (0, 0, 100000), (0, 0, 0), (0, 0, 0), (0, 0, 0), (0, 0, 0)], [], [], [], 0, [(0, 0, 51, [])], [(20, [4, 0, 3], [1, 22, 25, 0, 2])]), (34, [(0, (2, 0, 0, [139])), (1, (0, 0, 23, [])), (2, (0, -2147483648, 2147483647, [])), (3, (0, 0, 1, [])), (4, (0, 0, 24, []))], [], (0, 0), [(0, 0, 99975), (2, 5, 0), (0, 0, 99966), (1, 4, 24), (0, 0, 100000), (0, 0, 0), (0, 0, 0)], [], [], [], 0, [(0, 0, 51, [])], [(20, [5, 0, 3], [2, 22, 25, 0, 2])]), (62, [(0, (2, 0, 0, [139])), (1, (0, 0, 23, [])), (2, (0, -2147483648, 2147483647, [])), (3, (0, 0, 1, [])), (4, (0, 0, 23, [])), (5, (0, -2147483648, 2147483647, [])), (6, (0, 0, 48, []))], [], (0, 0), [(0, 0, 99975), (2, 7, 0), (0, 0, 99966), (1, 4, 24), (0, 0, 99938), (1, 6, 48), (0, 0, 100000)], [], [], [], 0, [(0, 0, 51, [])], [(20, [7, 0, 3], [2, 22, 25, 0, 2]), (20, [0, 4], [5, 22, 1])])]
def t_Mo_isInCore_ct : ct_L := [(1, 401, e_Mo_edges), (1, 405, e_Mo_has), (1, 475, e_Mo_nodes), (1, 563, e_Mo_other)]
set_option maxRecDepth 100000 in
theorem c_Mo_isInCore {l : Launch} {D : va_G} {kA : Nat → ClassId} (h_Mo_edges : ct_ok l D kA GG y_Mo_edges z_Mo_edges e_Mo_edges) (h_Mo_has : ct_ok l D kA GG y_Mo_has z_Mo_has e_Mo_has) (h_Mo_nodes : ct_ok l D kA GG y_Mo_nodes z_Mo_nodes e_Mo_nodes) (h_Mo_other : ct_ok l D kA GG y_Mo_other z_Mo_other e_Mo_other) : ct_ok l D kA GG y_Mo_isInCore z_Mo_isInCore e_Mo_isInCore := chk_all_ok (FT := [(48, 13, 22)]) (PT := []) (CT := t_Mo_isInCore_ct) (KT := []) (NT := []) (AN := n_Mo_isInCore_an) (OT := [o_Mo_isInCore_0, o_Mo_isInCore_1, o_Mo_isInCore_2, o_Mo_isInCore_3, o_Mo_isInCore_4, o_Mo_isInCore_5]) 7 372 (List.forall_mem_cons.mpr ⟨oo_Mo_isInCore_0, List.forall_mem_cons.mpr ⟨oo_Mo_isInCore_1, List.forall_mem_cons.mpr ⟨oo_Mo_isInCore_2, List.forall_mem_cons.mpr ⟨oo_Mo_isInCore_3, List.forall_mem_cons.mpr ⟨oo_Mo_isInCore_4, List.forall_mem_cons.mpr ⟨oo_Mo_isInCore_5, List.forall_mem_nil _⟩⟩⟩⟩⟩⟩) (by decide +kernel) ⟨List.forall_mem_cons.mpr ⟨gf_Mo_48, List.forall_mem_nil _⟩, List.forall_mem_nil _, List.forall_mem_cons.mpr ⟨cl_virtual (y := y_Mo_edges) (ci := 13) rfl rfl ⟨_, _, rfl⟩ (by decide +kernel) h_Mo_edges wm_3037 wm_9 wm_3034 wm_3036 wv_13_6 ⟨by decide, by decide, by decide +kernel⟩ (by decide), List.forall_mem_cons.mpr ⟨cl_virtual (y := y_Mo_has) (ci := 13) rfl rfl ⟨_, _, rfl⟩ (by decide +kernel) h_Mo_has wm_3041 wm_9 wm_3038 wm_3040 wv_13_7 ⟨by decide, by decide, by decide +kernel⟩ (by decide), List.forall_mem_cons.mpr ⟨cl_virtual (y := y_Mo_nodes) (ci := 13) rfl rfl ⟨_, _, rfl⟩ (by decide +kernel) h_Mo_nodes wm_3025 wm_9 wm_3022 wm_3024 wv_13_3 ⟨by decide, by decide, by decide +kernel⟩ (by decide), List.forall_mem_cons.mpr ⟨cl_virtual (y := y_Mo_other) (ci := 13) rfl rfl ⟨_, _, rfl⟩ (by decide +kernel) h_Mo_other wm_3331 wm_9 wm_3328 wm_3330 wv_17_6 ⟨by decide, by decide, by decide +kernel⟩ (by decide), List.forall_mem_nil _⟩⟩⟩⟩, List.forall_mem_nil _, List.forall_mem_nil _⟩ (by decide +kernel)
def n_Mo_isShared_an : List an_T := [(3, [(0, (2, 0, 0, [139])), (1, (0, 0, 47, [])), (2, (0, 0, 47, [])), (3, (1, -2147483648, 2147483647, [])), (5, (1, -2147483648, 2147483647, [])), (7, (0, 0, 24, []))], [], (0, 0), [(0, 0, 99997), (1, 5, 24), (0, 0, 100000)], [], [], [], 0, [], [])]
def t_Mo_isShared_ct : ct_L := [(1, 405, e_Mo_has), (1, 475, e_Mo_nodes), (1, 1023, e_Mo_px), (1, 1029, e_Mo_py)]
set_option maxRecDepth 100000 in
theorem c_Mo_isShared {l : Launch} {D : va_G} {kA : Nat → ClassId} (h_Mo_has : ct_ok l D kA GG y_Mo_has z_Mo_has e_Mo_has) (h_Mo_nodes : ct_ok l D kA GG y_Mo_nodes z_Mo_nodes e_Mo_nodes) (h_Mo_px : ct_ok l D kA GG y_Mo_px z_Mo_px e_Mo_px) (h_Mo_py : ct_ok l D kA GG y_Mo_py z_Mo_py e_Mo_py) : ct_ok l D kA GG y_Mo_isShared z_Mo_isShared e_Mo_isShared := chk_all_ok (FT := []) (PT := []) (CT := t_Mo_isShared_ct) (KT := []) (NT := []) (AN := n_Mo_isShared_an) (OT := []) 3 200 (List.forall_mem_nil _) (by decide +kernel) ⟨List.forall_mem_nil _, List.forall_mem_nil _, List.forall_mem_cons.mpr ⟨cl_virtual (y := y_Mo_has) (ci := 13) rfl rfl ⟨_, _, rfl⟩ (by decide +kernel) h_Mo_has wm_3041 wm_9 wm_3038 wm_3040 wv_13_7 ⟨by decide, by decide, by decide +kernel⟩ (by decide), List.forall_mem_cons.mpr ⟨cl_virtual (y := y_Mo_nodes) (ci := 13) rfl rfl ⟨_, _, rfl⟩ (by decide +kernel) h_Mo_nodes wm_3025 wm_9 wm_3022 wm_3024 wv_13_3 ⟨by decide, by decide, by decide +kernel⟩ (by decide), List.forall_mem_cons.mpr ⟨cl_virtual (y := y_Mo_px) (ci := 13) rfl rfl ⟨_, _, rfl⟩ (by decide +kernel) h_Mo_px wm_3675 wm_9 wm_3672 wm_3674 wv_21_14 ⟨by decide, by decide, by decide +kernel⟩ (by decide), List.forall_mem_cons.mpr ⟨cl_virtual (y := y_Mo_py) (ci := 13) rfl rfl ⟨_, _, rfl⟩ (by decide +kernel) h_Mo_py wm_3679 wm_9 wm_3676 wm_3678 wv_21_15 ⟨by decide, by decide, by decide +kernel⟩ (by decide), List.forall_mem_nil _⟩⟩⟩⟩, List.forall_mem_nil _, List.forall_mem_nil _⟩ (by decide +kernel)
