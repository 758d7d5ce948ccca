set_option maxRecDepth 100000 in
theorem c_Re_advance {l : Launch} {D : va_G} {kA : Nat → ClassId} (h_Re_isDigit : ct_ok PRD l D kA GG y_Re_isDigit z_Re_isDigit e_Re_isDigit) (h_Re_isLetter : ct_ok PRD l D kA GG y_Re_isLetter z_Re_isLetter e_Re_isLetter) (h_Re_isNameByte : ct_ok PRD l D kA GG y_Re_isNameByte z_Re_isNameByte e_Re_isNameByte) (h_Re_isSign : ct_ok PRD l D kA GG y_Re_isSign z_Re_isSign e_Re_isSign) : ct_ok PRD l D kA GG y_Re_advance z_Re_advance e_Re_advance := chk_all_ok (FT := [(9, 8, 0), (32, 8, 5), (35, 8, 6), (41, 8, 8), (44, 8, 9)]) (PT := [(35, 8, 6, .int), (38, 8, 7, .int), (41, 8, 8, .int), (44, 8, 9, .int)]) (CT := t_Re_advance_ct) (KT := [(0, 74, .int (1000000), (0, 1000000, 1000000, []))]) (NT := []) (AN := n_Re_advance_an) (OT := [o_Re_advance_0, o_Re_advance_1, o_Re_advance_2, o_Re_advance_3, o_Re_advance_4, o_Re_advance_5, o_Re_advance_6, o_Re_advance_7, o_Re_advance_8, o_Re_advance_9, o_Re_advance_10, o_Re_advance_11, o_Re_advance_12, o_Re_advance_13, o_Re_advance_14, o_Re_advance_15, o_Re_advance_16, o_Re_advance_17, o_Re_advance_18, o_Re_advance_19, o_Re_advance_20, o_Re_advance_21, o_Re_advance_22, o_Re_advance_23, o_Re_advance_24, o_Re_advance_25, o_Re_advance_26]) 3 1876 (List.forall_mem_cons.mpr ⟨oo_Re_advance_0, List.forall_mem_cons.mpr ⟨oo_Re_advance_1, List.forall_mem_cons.mpr ⟨oo_Re_advance_2, List.forall_mem_cons.mpr ⟨oo_Re_advance_3, List.forall_mem_cons.mpr ⟨oo_Re_advance_4, List.forall_mem_cons.mpr ⟨oo_Re_advance_5, List.forall_mem_cons.mpr ⟨oo_Re_advance_6, List.forall_mem_cons.mpr ⟨oo_Re_advance_7, List.forall_mem_cons.mpr ⟨oo_Re_advance_8, List.forall_mem_cons.mpr ⟨oo_Re_advance_9, List.forall_mem_cons.mpr ⟨oo_Re_advance_10, List.forall_mem_cons.mpr ⟨oo_Re_advance_11, List.forall_mem_cons.mpr ⟨oo_Re_advance_12, List.forall_mem_cons.mpr ⟨oo_Re_advance_13, List.forall_mem_cons.mpr ⟨oo_Re_advance_14, List.forall_mem_cons.mpr ⟨oo_Re_advance_15, List.forall_mem_cons.mpr ⟨oo_Re_advance_16, List.forall_mem_cons.mpr ⟨oo_Re_advance_17, List.forall_mem_cons.mpr ⟨oo_Re_advance_18, List.forall_mem_cons.mpr ⟨oo_Re_advance_19, List.forall_mem_cons.mpr ⟨oo_Re_advance_20, List.forall_mem_cons.mpr ⟨oo_Re_advance_21, List.forall_mem_cons.mpr ⟨oo_Re_advance_22, List.forall_mem_cons.mpr ⟨oo_Re_advance_23, List.forall_mem_cons.mpr ⟨oo_Re_advance_24, List.forall_mem_cons.mpr ⟨oo_Re_advance_25, List.forall_mem_cons.mpr ⟨oo_Re_advance_26, List.forall_mem_nil _⟩⟩⟩⟩⟩⟩⟩⟩⟩⟩⟩⟩⟩⟩⟩⟩⟩⟩⟩⟩⟩⟩⟩⟩⟩⟩⟩) (by decide +kernel) ⟨List.forall_mem_cons.mpr ⟨gf_Re_9, List.forall_mem_cons.mpr ⟨gf_Re_32, List.forall_mem_cons.mpr ⟨gf_Re_35, List.forall_mem_cons.mpr ⟨gf_Re_41, List.forall_mem_cons.mpr ⟨gf_Re_44, List.forall_mem_nil _⟩⟩⟩⟩⟩, List.forall_mem_cons.mpr ⟨pf_Re_35, List.forall_mem_cons.mpr ⟨pf_Re_38, List.forall_mem_cons.mpr ⟨pf_Re_41, List.forall_mem_cons.mpr ⟨pf_Re_44, List.forall_mem_nil _⟩⟩⟩⟩, List.forall_mem_cons.mpr ⟨cl_static (y := y_Re_isLetter) h_Re_isLetter wm_648 wm_2 wm_646 wm_647 ⟨by decide, by decide, by decide +kernel⟩ (by decide), List.forall_mem_cons.mpr ⟨cl_static (y := y_Re_isDigit) h_Re_isDigit wm_654 wm_2 wm_652 wm_653 ⟨by decide, by decide, by decide +kernel⟩ (by decide), List.forall_mem_cons.mpr ⟨cl_static (y := y_Re_isNameByte) h_Re_isNameByte wm_651 wm_2 wm_649 wm_650 ⟨by decide, by decide, by decide +kernel⟩ (by decide), List.forall_mem_cons.mpr ⟨cl_static (y := y_Re_isSign) h_Re_isSign wm_661 wm_2 wm_659 wm_660 ⟨by decide, by decide, by decide +kernel⟩ (by decide), List.forall_mem_cons.mpr ⟨cl_static (y := y_jMath_min1) c_jMath_min1_v146 wm_658 wm_10 wm_656 wm_657 ⟨by decide, by decide, by decide +kernel⟩ (by decide), List.forall_mem_cons.mpr ⟨cl_static (y := y_jMath_min1) c_jMath_min1_v147 wm_658 wm_10 wm_656 wm_657 ⟨by decide, by decide, by decide +kernel⟩ (by decide), List.forall_mem_cons.mpr ⟨cl_static (y := y_jMath_min1) c_jMath_min1_v148 wm_658 wm_10 wm_656 wm_657 ⟨by decide, by decide, by decide +kernel⟩ (by decide), List.forall_mem_cons.mpr ⟨cl_static (y := y_jMath_min1) c_jMath_min1_v149 wm_658 wm_10 wm_656 wm_657 ⟨by decide, by decide, by decide +kernel⟩ (by decide), List.forall_mem_cons.mpr ⟨cl_static (y := y_jMath_min1) c_jMath_min1_v150 wm_658 wm_10 wm_656 wm_657 ⟨by decide, by decide, by decide +kernel⟩ (by decide), List.forall_mem_nil _⟩⟩⟩⟩⟩⟩⟩⟩⟩, List.forall_mem_cons.mpr ⟨kx_Re_0_74, List.forall_mem_nil _⟩, List.forall_mem_nil _, GG_pl⟩ (by decide +kernel)
def n_Mo_chordCrossings_an : List an_T := [(4, [(0, (2, 0, 0, [165])), (1, (0, 0, 24, [])), (2, (0, 0, 0, [])), (3, (0, 0, 24, []))], [], (0, 0), [(0, 0, 99996), (1, 3, 24), (0, 0, 100000), (0, 0, 0), (0, 0, 0)], [], [], [], 0, [], []), (29, [(0, (2, 0, 0, [165])), (1, (0, 0, 24, [])), (2, (0, (Int.negSucc 2147483647), 2147483647, [])), (3, (0, 0, 48, []))], [], (0, 0), [(0, 0, 99971), (1, 3, 48), (0, 0, 100000), (0, 0, 0), (0, 0, 0)], [], [], [], 0, [], []), (90, [(0, (2, 0, 0, [165])), (1, (0, 0, 24, [])), (2, (0, (Int.negSucc 2147483647), 2147483647, [])), (3, (0, 0, 47, [])), (4, (0, (Int.negSucc 22), 24, [])), (5, (0, (Int.negSucc 22), 24, [])), (6, (0, 0, 48, []))], [], (0, 0), [(0, 0, 99971), (1, 3, 48), (0, 0, 99910), (1, 6, 48), (0, 0, 100000)], [], [], [], 0, [], []), (172, [(0, (2, 0, 0, [165])), (1, (0, 0, 24, [])), (2, (0, (Int.negSucc 2147483647), 2147483647, [])), (3, (0, 1, 47, [])), (4, (0, (Int.negSucc 22), 24, [])), (5, (0, (Int.negSucc 22), 24, [])), (6, (0, 0, 46, [])), (7, (0, (Int.negSucc 22), 24, [])), (8, (0, (Int.negSucc 22), 24, []))], [(0, (Int.negSucc 2147483647), 2147483647, [])], (0, 0), [(0, 0, 99971), (1, 3, 48), (0, 0, 99910), (1, 6, 48), (0, 0, 99828)], [], [], [], 0, [], []), (173, [(0, (2, 0, 0, [165])), (1, (0, 0, 24, [])), (2, (0, (Int.negSucc 2147483647), 2147483647, [])), (3, (0, 1, 47, [])), (4, (0, (Int.negSucc 22), 24, [])), (5, (0, (Int.negSucc 22), 24, [])), (6, (0, 0, 46, [])), (7, (0, (Int.negSucc 22), 24, [])), (8, (0, (Int.negSucc 22), 24, []))], [(0, 0, 1, []), (0, (Int.negSucc 2147483647), 2147483647, [])], (0, 0), [(0, 0, 99971), (1, 3, 48), (0, 0, 99910), (1, 6, 48), (0, 0, 99827)], [], [], [], 0, [], []), (191, [(0, (2, 0, 0, [165])), (1, (0, 0, 24, [])), (2, (0, (Int.negSucc 2147483647), 2147483647, [])), (3, (0, 1, 47, [])), (4, (0, (Int.negSucc 22), 24, [])), (5, (0, (Int.negSucc 22), 24, [])), (6, (0, 0, 46, [])), (7, (0, (Int.negSucc 22), 24, [])), (8, (0, (Int.negSucc 22), 24, []))], [(0, 0, 1, []), (0, (Int.negSucc 2147483647), 2147483647, [])], (0, 0), [(0, 0, 99971), (1, 3, 48), (0, 0, 99910), (1, 6, 48), (0, 0, 99809)], [], [], [], 0, [], []), (192, [(0, (2, 0, 0, [165])), (1, (0, 0, 24, [])), (2, (0, (Int.negSucc 2147483647), 2147483647, [])), (3, (0, 1, 47, [])), (4, (0, (Int.negSucc 22), 24, [])), (5, (0, (Int.negSucc 22), 24, [])), (6, (0, 0, 46, [])), (7, (0, (Int.negSucc 22), 24, [])), (8, (0, (Int.negSucc 22), 24, []))], [(0, 0, 1, []), (0, 0, 1, []), (0, (Int.negSucc 2147483647), 2147483647, [])], (0, 0), [(0, 0, 99971), (1, 3, 48), (0, 0, 99910), (1, 6, 48), (0, 0, 99808)], [], [], [], 0, [], []), (200, [(0, (2, 0, 0, [165])), (1, (0, 0, 24, [])), (2, (0, (Int.negSucc 2147483647), 2147483647, [])), (3, (0, 1, 47, [])), (4, (0, (Int.negSucc 22), 24, [])), (5, (0, (Int.negSucc 22), 24, [])), (6, (0, 0, 47, [])), (7, (0, (Int.negSucc 22), 24, [])), (8, (0, (Int.negSucc 22), 24, []))], [(0, 0, 1, []), (0, (Int.negSucc 2147483647), 2147483647, [])], (0, 0), [(0, 0, 99971), (1, 3, 48), (0, 0, 99910), (1, 6, 48), (0, 0, 99800)], [], [], [], 0, [], []), (202, [(0, (2, 0, 0, [165])), (1, (0, 0, 24, [])), (2, (0, (Int.negSucc 2147483647), 2147483647, [])), (3, (0, 1, 47, [])), (4, (0, (Int.negSucc 22), 24, [])), (5, (0, (Int.negSucc 22), 24, [])), (6, (0, 0, 47, [])), (7, (0, (Int.negSucc 22), 24, [])), (8, (0, (Int.negSucc 22), 24, []))], [], (0, 0), [(0, 0, 99971), (1, 3, 48), (0, 0, 99910), (1, 6, 48), (0, 0, 99798)], [], [], [], 0, [], [])]
def t_Mo_chordCrossings_ct : ct_L := [(0, 547, e_Mo_min), (0, 855, e_Mo_max), (1, 394, e_Mo_tail), (1, 398, e_Mo_head), (1, 401, e_Mo_edges)]
set_option maxRecDepth 100000 in
theorem c_Mo_chordCrossings {l : Launch} {D : va_G} {kA : Nat → ClassId} (h_Mo_edges : ct_ok PRD l D kA GG y_Mo_edges z_Mo_edges e_Mo_edges) (h_Mo_head : ct_ok PRD l D kA GG y_Mo_head z_Mo_head e_Mo_head) (h_Mo_max : ct_ok PRD l D kA GG y_Mo_max z_Mo_max e_Mo_max) (h_Mo_min : ct_ok PRD l D kA GG y_Mo_min z_Mo_min e_Mo_min) (h_Mo_tail : ct_ok PRD l D kA GG y_Mo_tail z_Mo_tail e_Mo_tail) : ct_ok PRD l D kA GG y_Mo_chordCrossings z_Mo_chordCrossings e_Mo_chordCrossings := chk_all_ok (FT := [(213, 13, 96), (293, 13, 128)]) (PT := []) (CT := t_Mo_chordCrossings_ct) (KT := []) (NT := []) (AN := n_Mo_chordCrossings_an) (OT := []) 5 548 (List.forall_mem_nil _) (by decide +kernel) ⟨List.forall_mem_cons.mpr ⟨gf_Mo_213, List.forall_mem_cons.mpr ⟨gf_Mo_293, List.forall_mem_nil _⟩⟩, List.forall_mem_nil _, List.forall_mem_cons.mpr ⟨cl_static (y := y_Mo_min) h_Mo_min wm_3174 wm_9 wm_3172 wm_3173 ⟨by decide, by decide, by decide +kernel⟩ (by decide), List.forall_mem_cons.mpr ⟨cl_static (y := y_Mo_max) h_Mo_max wm_3430 wm_9 wm_3428 wm_3429 ⟨by decide, by decide, by decide +kernel⟩ (by decide), List.forall_mem_cons.mpr ⟨cl_virtual (y := y_Mo_tail) (ci := 13) rfl rfl ⟨_, _, rfl⟩ (by decide +kernel) h_Mo_tail wm_3045 wm_9 wm_3042 wm_3044 wv_13_8 ⟨by decide, by decide, by decide +kernel⟩ (by decide), List.forall_mem_cons.mpr ⟨cl_virtual (y := y_Mo_head) (ci := 13) rfl rfl ⟨_, _, rfl⟩ (by decide +kernel) h_Mo_head wm_3049 wm_9 wm_3046 wm_3048 wv_13_9 ⟨by decide, by decide, by decide +kernel⟩ (by decide), List.forall_mem_cons.mpr ⟨cl_virtual (y := y_Mo_edges) (ci := 13) rfl rfl ⟨_, _, rfl⟩ (by decide +kernel) h_Mo_edges wm_3037 wm_9 wm_3034 wm_3036 wv_13_6 ⟨by decide, by decide, by decide +kernel⟩ (by decide), List.forall_mem_nil _⟩⟩⟩⟩⟩, List.forall_mem_nil _, List.forall_mem_nil _, GG_pl⟩ (by decide +kernel)
def n_Dr_isStruck_an : List an_T := [(2, [(0, (2, 0, 0, [0])), (1, (0, 0, 47, [])), (2, (0, 0, 23, [])), (3, (0, 0, 25, []))], [], (0, 0), [(0, 0, 99998), (1, 3, 25), (0, 0, 100000)], [], [], [], 0, [], [])]
def t_Dr_isStruck_ct : ct_L := [(1, 206, e_Dr_isOnPiece)]
set_option maxRecDepth 100000 in
theorem c_Dr_isStruck {l : Launch} {D : va_G} {kA : Nat → ClassId} (h_Dr_isOnPiece : ct_ok PRD l D kA GG y_Dr_isOnPiece z_Dr_isOnPiece e_Dr_isOnPiece) : ct_ok PRD l D kA GG y_Dr_isStruck z_Dr_isStruck e_Dr_isStruck := chk_all_ok (FT := [(15, 0, 2), (19, 0, 3), (22, 0, 4)]) (PT := []) (CT := t_Dr_isStruck_ct) (KT := []) (NT := []) (AN := n_Dr_isStruck_an) (OT := []) 3 200 (List.forall_mem_nil _) (by decide +kernel) ⟨List.forall_mem_cons.mpr ⟨gf_Dr_15, List.forall_mem_cons.mpr ⟨gf_Dr_19, List.forall_mem_cons.mpr ⟨gf_Dr_22, List.forall_mem_nil _⟩⟩⟩, List.forall_mem_nil _, List.forall_mem_cons.mpr ⟨cl_virtual (y := y_Dr_isOnPiece) (ci := 0) rfl rfl ⟨_, _, rfl⟩ (by decide +kernel) h_Dr_isOnPiece wm_2034 wm_8 wm_2031 wm_2033 wv_9_15 ⟨by decide, by decide, by decide +kernel⟩ (by decide), List.forall_mem_nil _⟩, List.forall_mem_nil _, List.forall_mem_nil _, GG_pl⟩ (by decide +kernel)
def n_Dr_wholeArea_an : List an_T := []
def t_Dr_wholeArea_ct : ct_L := [(1, 214, e_Dr_measure)]
set_option maxRecDepth 100000 in
theorem c_Dr_wholeArea {l : Launch} {D : va_G} {kA : Nat → ClassId} (h_Dr_measure : ct_ok PRD l D kA GG y_Dr_measure z_Dr_measure e_Dr_measure) : ct_ok PRD l D kA GG y_Dr_wholeArea z_Dr_wholeArea e_Dr_wholeArea := chk_all_ok (FT := [(62, 0, 17), (65, 0, 18), (68, 0, 19), (71, 0, 20)]) (PT := []) (CT := t_Dr_wholeArea_ct) (KT := []) (NT := []) (AN := n_Dr_wholeArea_an) (OT := []) 0 200 (List.forall_mem_nil _) (by decide +kernel) ⟨List.forall_mem_cons.mpr ⟨gf_Dr_62, List.forall_mem_cons.mpr ⟨gf_Dr_65, List.forall_mem_cons.mpr ⟨gf_Dr_68, List.forall_mem_cons.mpr ⟨gf_Dr_71, List.forall_mem_nil _⟩⟩⟩⟩, List.forall_mem_nil _, List.forall_mem_cons.mpr ⟨cl_virtual (y := y_Dr_measure) (ci := 0) rfl rfl ⟨_, _, rfl⟩ (by decide +kernel) h_Dr_measure wm_2066 wm_8 wm_2063 wm_2064 wm_2065 ⟨by decide, by decide, by decide +kernel⟩ (by decide), List.forall_mem_nil _⟩, List.forall_mem_nil _, List.forall_mem_nil _, GG_pl⟩ (by decide +kernel)
def n_Mo_at2_an : List an_T := []
def t_Mo_at2_ct : ct_L := [(0, 387, e_Mo_in), (0, 521, e_Mo_isPlace), (1, 401, e_Mo_edges), (1, 475, e_Mo_nodes), (1, 527, e_Mo_take)]
set_option maxRecDepth 100000 in
theorem c_Mo_at2 {l : Launch} {D : va_G} {kA : Nat → ClassId} (h_Mo_edges : ct_ok PRD l D kA GG y_Mo_edges z_Mo_edges e_Mo_edges) (h_Mo_in : ct_ok PRD l D kA GG y_Mo_in z_Mo_in e_Mo_in) (h_Mo_isPlace : ct_ok PRD l D kA GG y_Mo_isPlace z_Mo_isPlace e_Mo_isPlace) (h_Mo_nodes : ct_ok PRD l D kA GG y_Mo_nodes z_Mo_nodes e_Mo_nodes) (h_Mo_take : ct_ok PRD l D kA GG y_Mo_take z_Mo_take e_Mo_take) : ct_ok PRD l D kA GG y_Mo_at2 z_Mo_at2 e_Mo_at2 := chk_all_ok (FT := [(120, 13, 61), (123, 13, 62), (126, 13, 63), (129, 13, 64), (132, 13, 65), (135, 13, 66)]) (PT := []) (CT := t_Mo_at2_ct) (KT := [(1, 775, .int (Int32.ofInt (-2147483648)), (0, -2147483648, -2147483648, []))]) (NT := []) (AN := n_Mo_at2_an) (OT := []) 0 584 (List.forall_mem_nil _) (by decide +kernel) ⟨List.forall_mem_cons.mpr ⟨gf_Mo_120, List.forall_mem_cons.mpr ⟨gf_Mo_123, List.forall_mem_cons.mpr ⟨gf_Mo_126, List.forall_mem_cons.mpr ⟨gf_Mo_129, List.forall_mem_cons.mpr ⟨gf_Mo_132, List.forall_mem_cons.mpr ⟨gf_Mo_135, List.forall_mem_nil _⟩⟩⟩⟩⟩⟩, List.forall_mem_nil _, List.forall_mem_cons.mpr ⟨cl_static (y := y_Mo_in) h_Mo_in wm_2971 wm_9 wm_2969 wm_2970 ⟨by decide, by decide, by decide +kernel⟩ (by decide), List.forall_mem_cons.mpr ⟨cl_static (y := y_Mo_isPlace) h_Mo_isPlace wm_2978 wm_9 wm_2976 wm_2977 ⟨by decide, by decide, by decide +kernel⟩ (by decide), List.forall_mem_cons.mpr ⟨cl_virtual (y := y_Mo_edges) (ci := 13) rfl rfl ⟨_, _, rfl⟩ (by decide +kernel) h_Mo_edges wm_3037 wm_9 wm_3034 wm_3036 wv_13_6 ⟨by decide, by decide, by decide +kernel⟩ (by decide), List.forall_mem_cons.mpr ⟨cl_virtual (y := y_Mo_nodes) (ci := 13) rfl rfl ⟨_, _, rfl⟩ (by decide +kernel) h_Mo_nodes wm_3025 wm_9 wm_3022 wm_3024 wv_13_3 ⟨by decide, by decide, by decide +kernel⟩ (by decide), List.forall_mem_cons.mpr ⟨cl_virtual (y := y_Mo_take) (ci := 13) rfl rfl ⟨_, _, rfl⟩ (by decide +kernel) h_Mo_take wm_3091 wm_9 wm_3088 wm_3090 wv_14_2 ⟨by decide, by decide, by decide +kernel⟩ (by decide), List.forall_mem_nil _⟩⟩⟩⟩⟩, List.forall_mem_cons.mpr ⟨kx_Mo_1_775, List.forall_mem_nil _⟩, List.forall_mem_nil _, GG_pl⟩ (by decide +kernel)
def n_Mo_isShared_an : List an_T := [(3, [(0, (2, 0, 0, [165])), (1, (0, 0, 47, [])), (2, (0, 0, 47, [])), (3, (1, (Int.negSucc 300000010), 300000000, [])), (5, (1, (Int.negSucc 899999999), 900000000, [])), (7, (0, 0, 24, []))], [], (0, 0), [(0, 0, 99997), (1, 5, 24), (0, 0, 100000)], [], [], [], 0, [], [])]
def t_Mo_isShared_ct : ct_L := [(1, 405, e_Mo_has), (1, 475, e_Mo_nodes), (1, 1023, e_Mo_px), (1, 1029, e_Mo_py)]
set_option maxRecDepth 100000 in
theorem c_Mo_isShared {l : Launch} {D : va_G} {kA : Nat → ClassId} (h_Mo_has : ct_ok PRD l D kA GG y_Mo_has z_Mo_has e_Mo_has) (h_Mo_nodes : ct_ok PRD l D kA GG y_Mo_nodes z_Mo_nodes e_Mo_nodes) (h_Mo_px : ct_ok PRD l D kA GG y_Mo_px z_Mo_px e_Mo_px) (h_Mo_py : ct_ok PRD l D kA GG y_Mo_py z_Mo_py e_Mo_py) : ct_ok PRD l D kA GG y_Mo_isShared z_Mo_isShared e_Mo_isShared := chk_all_ok (FT := []) (PT := []) (CT := t_Mo_isShared_ct) (KT := []) (NT := []) (AN := n_Mo_isShared_an) (OT := []) 3 200 (List.forall_mem_nil _) (by decide +kernel) ⟨List.forall_mem_nil _, List.forall_mem_nil _, List.forall_mem_cons.mpr ⟨cl_virtual (y := y_Mo_has) (ci := 13) rfl rfl ⟨_, _, rfl⟩ (by decide +kernel) h_Mo_has wm_3041 wm_9 wm_3038 wm_3040 wv_13_7 ⟨by decide, by decide, by decide +kernel⟩ (by decide), List.forall_mem_cons.mpr ⟨cl_virtual (y := y_Mo_nodes) (ci := 13) rfl rfl ⟨_, _, rfl⟩ (by decide +kernel) h_Mo_nodes wm_3025 wm_9 wm_3022 wm_3024 wv_13_3 ⟨by decide, by decide, by decide +kernel⟩ (by decide), List.forall_mem_cons.mpr ⟨cl_virtual (y := y_Mo_px) (ci := 13) rfl rfl ⟨_, _, rfl⟩ (by decide +kernel) h_Mo_px wm_3675 wm_9 wm_3672 wm_3674 wv_21_14 ⟨by decide, by decide, by decide +kernel⟩ (by decide), List.forall_mem_cons.mpr ⟨cl_virtual (y := y_Mo_py) (ci := 13) rfl rfl ⟨_, _, rfl⟩ (by decide +kernel) h_Mo_py wm_3679 wm_9 wm_3676 wm_3678 wv_21_15 ⟨by decide, by decide, by decide +kernel⟩ (by decide), List.forall_mem_nil _⟩⟩⟩⟩, List.forall_mem_nil _, List.forall_mem_nil _, GG_pl⟩ (by decide +kernel)
def n_Mo_letter_an : List an_T := []
def t_Mo_letter_ct : ct_L := [(0, 387, e_Mo_in), (0, 521, e_Mo_isPlace), (1, 475, e_Mo_nodes), (1, 509, e_Mo_groups), (1, 527, e_Mo_take)]
set_option maxRecDepth 100000 in
theorem c_Mo_letter {l : Launch} {D : va_G} {kA : Nat → ClassId} (h_Mo_groups : ct_ok PRD l D kA GG y_Mo_groups z_Mo_groups e_Mo_groups) (h_Mo_in : ct_ok PRD l D kA GG y_Mo_in z_Mo_in e_Mo_in) (h_Mo_isPlace : ct_ok PRD l D kA GG y_Mo_isPlace z_Mo_isPlace e_Mo_isPlace) (h_Mo_nodes : ct_ok PRD l D kA GG y_Mo_nodes z_Mo_nodes e_Mo_nodes) (h_Mo_take : ct_ok PRD l D kA GG y_Mo_take z_Mo_take e_Mo_take) : ct_ok PRD l D kA GG y_Mo_letter z_Mo_letter e_Mo_letter := chk_all_ok (FT := [(16, 13, 2), (391, 13, 5)]) (PT := []) (CT := t_Mo_letter_ct) (KT := []) (NT := []) (AN := n_Mo_letter_an) (OT := []) 0 528 (List.forall_mem_nil _) (by decide +kernel) ⟨List.forall_mem_cons.mpr ⟨gf_Mo_16, List.forall_mem_cons.mpr ⟨gf_Mo_391, List.forall_mem_nil _⟩⟩, List.forall_mem_nil _, List.forall_mem_cons.mpr ⟨cl_static (y := y_Mo_in) h_Mo_in wm_2971 wm_9 wm_2969 wm_2970 ⟨by decide, by decide, by decide +kernel⟩ (by decide), List.forall_mem_cons.mpr ⟨cl_static (y := y_Mo_isPlace) h_Mo_isPlace wm_2978 wm_9 wm_2976 wm_2977 ⟨by decide, by decide, by decide +kernel⟩ (by decide), List.forall_mem_cons.mpr ⟨cl_virtual (y := y_Mo_nodes) (ci := 13) rfl rfl ⟨_, _, rfl⟩ (by decide +kernel) h_Mo_nodes wm_3025 wm_9 wm_3022 wm_3024 wv_13_3 ⟨by decide, by decide, by decide +kernel⟩ (by decide), List.forall_mem_cons.mpr ⟨cl_virtual (y := y_Mo_groups) (ci := 13) rfl rfl ⟨_, _, rfl⟩ (by decide +kernel) h_Mo_groups wm_3070 wm_9 wm_3067 wm_3069 wv_13_14 ⟨by decide, by decide, by decide +kernel⟩ (by decide), List.forall_mem_cons.mpr ⟨cl_virtual (y := y_Mo_take) (ci := 13) rfl rfl ⟨_, _, rfl⟩ (by decide +kernel) h_Mo_take wm_3091 wm_9 wm_3088 wm_3090 wv_14_2 ⟨by decide, by decide, by decide +kernel⟩ (by decide), List.forall_mem_nil _⟩⟩⟩⟩⟩, List.forall_mem_nil _, List.forall_mem_nil _, GG_pl⟩ (by decide +kernel)
def n_Mo_put_an : List an_T := []
def t_Mo_put_ct : ct_L := [(0, 387, e_Mo_in), (0, 521, e_Mo_isPlace), (1, 401, e_Mo_edges), (1, 475, e_Mo_nodes), (1, 527, e_Mo_take)]
set_option maxRecDepth 100000 in
theorem c_Mo_put {l : Launch} {D : va_G} {kA : Nat → ClassId} (h_Mo_edges : ct_ok PRD l D kA GG y_Mo_edges z_Mo_edges e_Mo_edges) (h_Mo_in : ct_ok PRD l D kA GG y_Mo_in z_Mo_in e_Mo_in) (h_Mo_isPlace : ct_ok PRD l D kA GG y_Mo_isPlace z_Mo_isPlace e_Mo_isPlace) (h_Mo_nodes : ct_ok PRD l D kA GG y_Mo_nodes z_Mo_nodes e_Mo_nodes) (h_Mo_take : ct_ok PRD l D kA GG y_Mo_take z_Mo_take e_Mo_take) : ct_ok PRD l D kA GG y_Mo_put z_Mo_put e_Mo_put := chk_all_ok (FT := [(120, 13, 61), (123, 13, 62), (126, 13, 63), (129, 13, 64), (132, 13, 65), (135, 13, 66)]) (PT := []) (CT := t_Mo_put_ct) (KT := [(1, 546, .int (1000000), (0, 1000000, 1000000, [])), (1, 776, .int (Int32.ofInt (-1000000)), (0, -1000000, -1000000, []))]) (NT := []) (AN := n_Mo_put_an) (OT := []) 0 560 (List.forall_mem_nil _) (by decide +kernel) ⟨List.forall_mem_cons.mpr ⟨gf_Mo_120, List.forall_mem_cons.mpr ⟨gf_Mo_123, List.forall_mem_cons.mpr ⟨gf_Mo_126, List.forall_mem_cons.mpr ⟨gf_Mo_129, List.forall_mem_cons.mpr ⟨gf_Mo_132, List.forall_mem_cons.mpr ⟨gf_Mo_135, List.forall_mem_nil _⟩⟩⟩⟩⟩⟩, List.forall_mem_nil _, List.forall_mem_cons.mpr ⟨cl_static (y := y_Mo_in) h_Mo_in wm_2971 wm_9 wm_2969 wm_2970 ⟨by decide, by decide, by decide +kernel⟩ (by decide), List.forall_mem_cons.mpr ⟨cl_static (y := y_Mo_isPlace) h_Mo_isPlace wm_2978 wm_9 wm_2976 wm_2977 ⟨by decide, by decide, by decide +kernel⟩ (by decide), List.forall_mem_cons.mpr ⟨cl_virtual (y := y_Mo_edges) (ci := 13) rfl rfl ⟨_, _, rfl⟩ (by decide +kernel) h_Mo_edges wm_3037 wm_9 wm_3034 wm_3036 wv_13_6 ⟨by decide, by decide, by decide +kernel⟩ (by decide), List.forall_mem_cons.mpr ⟨cl_virtual (y := y_Mo_nodes) (ci := 13) rfl rfl ⟨_, _, rfl⟩ (by decide +kernel) h_Mo_nodes wm_3025 wm_9 wm_3022 wm_3024 wv_13_3 ⟨by decide, by decide, by decide +kernel⟩ (by decide), List.forall_mem_cons.mpr ⟨cl_virtual (y := y_Mo_take) (ci := 13) rfl rfl ⟨_, _, rfl⟩ (by decide +kernel) h_Mo_take wm_3091 wm_9 wm_3088 wm_3090 wv_14_2 ⟨by decide, by decide, by decide +kernel⟩ (by decide), List.forall_mem_nil _⟩⟩⟩⟩⟩, List.forall_mem_cons.mpr ⟨kx_Mo_1_546, List.forall_mem_cons.mpr ⟨kx_Mo_1_776, List.forall_mem_nil _⟩⟩, List.forall_mem_nil _, GG_pl⟩ (by decide +kernel)

set_option maxHeartbeats 4000000 in
theorem vc_Mo_same_0_0 (x4 : Int) (steps_0 : Int) (gx : Int) (k4 : 0 ≤ x4 ∧ x4 ≤ 0) (kz_0_27 : 0 ≤ steps_0 ∧ steps_0 ≤ 20000) (ex2 : gx = 40000 + ((-2) * steps_0 + (1 * x4 + 0))) : 1 * gx + (2 * steps_0 + ((-1) * x4 + 0)) ≤ 40000 := by
  first | assumption | omega | grind
set_option maxHeartbeats 4000000 in
theorem vc_Mo_same_0_1 (x4 : Int) (steps_0 : Int) (gx : Int) (k4 : 0 ≤ x4 ∧ x4 ≤ 0) (kz_0_27 : 0 ≤ steps_0 ∧ steps_0 ≤ 20000) (ex2 : gx = 40000 + ((-2) * steps_0 + (1 * x4 + 0))) : (-1) * gx + ((-2) * steps_0 + (1 * x4 + 0)) ≤ (-40000) := by
  first | assumption | omega | grind
def o_Mo_same_0 : or_T := (130, 6, [(0, (2, 0, 0, [165])), (4, (0, 0, 0, []))], [], [], [(0, -1, 40100, [])], [(20, [6, 0, 4], [30, 40000, 1, 0, 0, 2, 1, 27, -1, 0, 0]), (20, [6, 0, 4], [30, -40000, -1, 0, 0, -2, 1, 27, 1, 0, 0])], [], [])
theorem oo_Mo_same_0 {kA : Nat → ClassId} : or_ok PRD kA GG o_Mo_same_0 := by
  refine or_mk fun A ta ws vs hD hth hl => ?_
  intro t0 r0 t4 k4
  have kz_0_27 := fdq_33 hD hth r0
  obtain ⟨x, ex, hx⟩ := iv_ex (ta := ta) (lo := (-1)) (hi := 40100) (z := 40000 + ((-2) * w_fi ws (n_v vs 0) 27 + (1 * v_iv (n_v vs 4) + 0))) (by omega) (by omega) (by omega) (by omega)
  have ex2 : v_iv (Value.int x) = 40000 + ((-2) * w_fi ws (n_v vs 0) 27 + (1 * v_iv (n_v vs 4) + 0)) := ex
  have ex3 : (-1) ≤ v_iv (Value.int x) ∧ v_iv (Value.int x) ≤ 40100 := tv_rng hx
  have e_0 : n_v (vs ++ [Value.int x]) 0 = n_v vs 0 := n_v_old (by rw [hl]; decide)
  have e_4 : n_v (vs ++ [Value.int x]) 4 = n_v vs 4 := n_v_old (by rw [hl]; decide)
  have e_6 : n_v (vs ++ [Value.int x]) 6 = Value.int x := n_v_new hl
  have nf0 : fc_1 PRD (20, [6, 0, 4], [30, 40000, 1, 0, 0, 2, 1, 27, -1, 0, 0]) ws (vs ++ [Value.int x]) := by
    refine ⟨nf_inA hl rfl, sgq_205 ?_⟩
    · show 1 * v_iv (n_v (vs ++ [Value.int x]) 6) + (2 * w_fi ws (n_v (vs ++ [Value.int x]) 0) 27 + ((-1) * v_iv (n_v (vs ++ [Value.int x]) 4) + 0)) ≤ 40000
      simp only [e_0, e_4, e_6]
      exact vc_Mo_same_0_0 (v_iv (n_v vs 4)) (w_fi ws (n_v vs 0) 27) (v_iv (Value.int x)) k4 kz_0_27 ex2
  have nf1 : fc_1 PRD (20, [6, 0, 4], [30, -40000, -1, 0, 0, -2, 1, 27, 1, 0, 0]) ws (vs ++ [Value.int x]) := by
    refine ⟨nf_inA hl rfl, sgq_206 ?_⟩
    · show (-1) * v_iv (n_v (vs ++ [Value.int x]) 6) + ((-2) * w_fi ws (n_v (vs ++ [Value.int x]) 0) 27 + (1 * v_iv (n_v (vs ++ [Value.int x]) 4) + 0)) ≤ (-40000)
      simp only [e_0, e_4, e_6]
      exact vc_Mo_same_0_1 (v_iv (n_v vs 4)) (w_fi ws (n_v vs 0) 27) (v_iv (Value.int x)) k4 kz_0_27 ex2
  exact ⟨(fun _ h => (by cases h)), [Value.int x], ag_one hx, List.forall_mem_cons.mpr ⟨⟨show (20 : Nat) < 100 from by decide, nf0⟩, List.forall_mem_cons.mpr ⟨⟨show (20 : Nat) < 100 from by decide, nf1⟩, (fun _ h => (by cases h))⟩⟩, (fun _ h => (by cases h))⟩
set_option maxHeartbeats 4000000 in
theorem vc_Mo_same_1_0 (x4 : Int) (x7 : Int) (x12 : Int) (steps_0 : Int) (gx : Int) (k4 : 0 ≤ x4 ∧ x4 ≤ 23) (k7 : (-1) ≤ x7 ∧ x7 ≤ 40100) (k12 : 0 ≤ x12 ∧ x12 ≤ 0) (f5 : 1 * x7 + (2 * steps_0 + ((-1) * x4 + 0)) ≤ 40000) (f6 : (-1) * x7 + ((-2) * steps_0 + (1 * x4 + 0)) ≤ (-40000)) (kz_0_27 : 0 ≤ steps_0 ∧ steps_0 ≤ 20000) (ex2 : gx = 0 + (1 * x7 + 0)) : (-2) * steps_0 + (1 * x4 + (2 * x12 + ((-1) * gx + 0))) ≤ (-40000) := by
  first | assumption | omega | grind
set_option maxHeartbeats 4000000 in
theorem vc_Mo_same_1_1 (x3 : Int) (x4 : Int) (x7 : Int) (x9 : Int) (x11 : Int) (x12 : Int) (mapTried_0 : Int → Int) (steps_0 : Int) (gx : Int) (k3 : 1 ≤ x3 ∧ x3 ≤ 24) (k4 : 0 ≤ x4 ∧ x4 ≤ 23) (k7 : (-1) ≤ x7 ∧ x7 ≤ 40100) (k9 : (-1) ≤ x9 ∧ x9 ≤ 23) (k11 : 0 ≤ x11 ∧ x11 ≤ 24) (k12 : 0 ≤ x12 ∧ x12 ≤ 0) (d0 : x9 + 1 ≤ x11 ∧ x11 ≤ x9 + 1) (d1 : x3 + (-4294967296) ≤ x4 ∧ x4 ≤ x3 + (-1)) (h1 : x9 = mapTried_0 (x4)) (f5 : 1 * x7 + (2 * steps_0 + ((-1) * x4 + 0)) ≤ 40000) (f6 : (-1) * x7 + ((-2) * steps_0 + (1 * x4 + 0)) ≤ (-40000)) (kz_0_27 : 0 ≤ steps_0 ∧ steps_0 ≤ 20000) (ex2 : gx = 0 + (1 * x7 + 0)) : 1 * x11 + ((-1) * x3 + (25 * x12 + 0)) ≤ 24 := by
  first | assumption | omega | grind
def o_Mo_same_1 : or_T := (155, 13, [(0, (2, 0, 0, [165])), (3, (0, 1, 24, [])), (4, (0, 0, 23, [])), (7, (0, -1, 40100, [])), (8, (2, 0, 0, [179])), (9, (0, -1, 23, [])), (10, (0, 1, 1, [])), (11, (0, 0, 24, [])), (12, (0, 0, 0, []))], [(1, [11, 9, 10], []), (10, [9, 8, 4], []), (9, [8, 0], [24]), (7, [4, 3], [2]), (8, [4], [3]), (20, [7, 0, 4], [30, 40000, 1, 0, 0, 2, 1, 27, -1, 0, 0]), (20, [7, 0, 4], [30, -40000, -1, 0, 0, -2, 1, 27, 1, 0, 0])], [], [(0, -1, 40100, [])], [(20, [0, 4, 12, 13], [30, -40000, -2, 1, 27, 1, 0, 0, 2, 0, 0, -1, 0, 0]), (23, [11, 3, 12], [24, 1, -1, 25])], [(13, 7, 0, 0)], [(11, 9, 1, 1), (4, 3, -4294967296, -1), (4, 3, -4294967296, 0)])
theorem oo_Mo_same_1 {kA : Nat → ClassId} : or_ok PRD kA GG o_Mo_same_1 := by
  refine or_mk fun A ta ws vs hD hth hl => ?_
  intro t0 r0 t3 k3 t4 k4 t7 k7 t8 r8 t9 k9 t10 k10 t11 k11 t12 k12 d0 d1 d2 f0 f1 f2 f3 f4 f5 f6
  replace f0 := shm_12 f0
  replace f1 := shm_106 f1
  replace f2 := shm_207 f2
  replace f3 := shm_6 f3
  replace f4 := shm_32 f4
  replace f5 := shm_205 f5
  replace f6 := shm_206 f6
  have cr_0_24 := fdq_34 hD hth r0
  have ad_8 : v_ad (n_v vs 8) = w_ar ws (n_v vs 0) 24 := congrArg v_ad f2
  simp only [ad_8] at f1
  have h1 : v_iv (n_v vs 9) = w_ei ws (w_ar ws (n_v vs 0) 24) (v_iv (n_v vs 4)) := f1
  have kz_0_27 := fdq_33 hD hth r0
  obtain ⟨x, ex, hx⟩ := iv_ex (ta := ta) (lo := (-1)) (hi := 40100) (z := 0 + (1 * v_iv (n_v vs 7) + 0)) (by omega) (by omega) (by omega) (by omega)
  have ex2 : v_iv (Value.int x) = 0 + (1 * v_iv (n_v vs 7) + 0) := ex
  have ex3 : (-1) ≤ v_iv (Value.int x) ∧ v_iv (Value.int x) ≤ 40100 := tv_rng hx
  have e_0 : n_v (vs ++ [Value.int x]) 0 = n_v vs 0 := n_v_old (by rw [hl]; decide)
  have e_3 : n_v (vs ++ [Value.int x]) 3 = n_v vs 3 := n_v_old (by rw [hl]; decide)
  have e_4 : n_v (vs ++ [Value.int x]) 4 = n_v vs 4 := n_v_old (by rw [hl]; decide)
  have e_11 : n_v (vs ++ [Value.int x]) 11 = n_v vs 11 := n_v_old (by rw [hl]; decide)
  have e_12 : n_v (vs ++ [Value.int x]) 12 = n_v vs 12 := n_v_old (by rw [hl]; decide)
  have e_13 : n_v (vs ++ [Value.int x]) 13 = Value.int x := n_v_new hl
  have nf0 : fc_1 PRD (20, [0, 4, 12, 13], [30, -40000, -2, 1, 27, 1, 0, 0, 2, 0, 0, -1, 0, 0]) ws (vs ++ [Value.int x]) := by
    refine ⟨nf_inA hl rfl, sgq_208 ?_⟩
    · show (-2) * w_fi ws (n_v (vs ++ [Value.int x]) 0) 27 + (1 * v_iv (n_v (vs ++ [Value.int x]) 4) + (2 * v_iv (n_v (vs ++ [Value.int x]) 12) + ((-1) * v_iv (n_v (vs ++ [Value.int x]) 13) + 0))) ≤ (-40000)
      simp only [e_0, e_4, e_12, e_13]
      exact vc_Mo_same_1_0 (v_iv (n_v vs 4)) (v_iv (n_v vs 7)) (v_iv (n_v vs 12)) (w_fi ws (n_v vs 0) 27) (v_iv (Value.int x)) k4 k7 k12 f5 f6 kz_0_27 ex2
  have nf1 : fc_1 PRD (23, [11, 3, 12], [24, 1, -1, 25]) ws (vs ++ [Value.int x]) := by
    refine ⟨nf_inA hl rfl, sgq_209 ?_⟩
    · show 1 * v_iv (n_v (vs ++ [Value.int x]) 11) + ((-1) * v_iv (n_v (vs ++ [Value.int x]) 3) + (25 * v_iv (n_v (vs ++ [Value.int x]) 12) + 0)) ≤ 24
      simp only [e_3, e_11, e_12]
      exact vc_Mo_same_1_1 (v_iv (n_v vs 3)) (v_iv (n_v vs 4)) (v_iv (n_v vs 7)) (v_iv (n_v vs 9)) (v_iv (n_v vs 11)) (v_iv (n_v vs 12)) (w_ei ws (w_ar ws (n_v vs 0) 24)) (w_fi ws (n_v vs 0) 27) (v_iv (Value.int x)) k3 k4 k7 k9 k11 k12 d0 d1 h1 f5 f6 kz_0_27 ex2
  obtain ⟨x0, e0, _, _⟩ := tv_int t7 rfl
  have e1 : v_iv (n_v vs 7) = x0.toInt := by rw [e0]; rfl
  have ho : sy_ofs (vs ++ [Value.int x]) (13, 7, 0, 0) := by
    refine ⟨x, x0, by rw [List.getElem?_append_right (by rw [hl]; decide), hl]; rfl, ?_, ?_, ?_⟩
    · rw [List.getElem?_append_left (by rw [hl]; decide)]; exact n_v_some (by rw [hl]; decide) e0
    · show x0.toInt + 0 ≤ x.toInt; omega
    · show x.toInt ≤ x0.toInt + 0; omega
  exact ⟨(fun _ h => (by cases h)), [Value.int x], ag_one hx, List.forall_mem_cons.mpr ⟨⟨show (20 : Nat) < 100 from by decide, nf0⟩, List.forall_mem_cons.mpr ⟨⟨show (23 : Nat) < 100 from by decide, nf1⟩, (fun _ h => (by cases h))⟩⟩, List.forall_mem_cons.mpr ⟨ho, (fun _ h => (by cases h))⟩⟩
set_option maxHeartbeats 4000000 in
theorem vc_Mo_same_2_0 (x12 : Int) (steps_0 : Int) (steps_1 : Int) (gx : Int) (k12 : (-1) ≤ x12 ∧ x12 ≤ 22) (fe_0_27_1 : steps_0 = steps_1) (kz_0_27 : 0 ≤ steps_0 ∧ steps_0 ≤ 20000) (ex2 : gx = 40000 + ((-2) * steps_0 + (1 * x12 + 0))) : 1 * gx + (2 * steps_0 + ((-1) * x12 + 0)) ≤ 40000 := by
  subst fe_0_27_1
  first | assumption | omega | grind
set_option maxHeartbeats 4000000 in
theorem vc_Mo_same_2_1 (x12 : Int) (steps_0 : Int) (steps_1 : Int) (gx : Int) (k12 : (-1) ≤ x12 ∧ x12 ≤ 22) (fe_0_27_1 : steps_0 = steps_1) (kz_0_27 : 0 ≤ steps_0 ∧ steps_0 ≤ 20000) (ex2 : gx = 40000 + ((-2) * steps_0 + (1 * x12 + 0))) : (-1) * gx + ((-2) * steps_0 + (1 * x12 + 0)) ≤ (-40000) := by
  subst fe_0_27_1
  first | assumption | omega | grind
def o_Mo_same_2 : or_T := (130, 13, [(0, (2, 0, 0, [165])), (3, (0, 1, 24, [])), (4, (0, 0, 23, [])), (5, (0, 1, 24, [])), (6, (0, 0, 0, [])), (8, (0, -1, 40100, [])), (9, (2, 0, 0, [179])), (11, (0, -1, -1, [])), (12, (0, -1, 22, []))], [(1, [12, 4, 11], []), (8, [6], [0]), (20, [0, 4, 6, 8], [30, -40000, -2, 1, 27, 1, 0, 0, 2, 0, 0, -1, 0, 0]), (23, [5, 3, 6], [24, 1, -1, 25]), (100, [9, 4, 10], []), (8, [6], [0]), (9, [9, 0], [24]), (7, [5, 3], [3]), (20, [0, 4, 6, 8], [30, -40000, -2, 1, 27, 1, 0, 0, 2, 0, 0, -1, 0, 0]), (23, [5, 3, 6], [24, 1, -1, 25])], [], [(0, -1, 40100, [])], [(20, [13, 0, 12], [30, 40000, 1, 0, 0, 2, 1, 27, -1, 0, 0]), (20, [13, 0, 12], [30, -40000, -1, 0, 0, -2, 1, 27, 1, 0, 0])], [(13, 8, -1000000000000, -1)], [(12, 4, -1, -1), (12, 3, -4294967296, -2), (5, 3, 0, 4294967296), (4, 3, -4294967296, -1)])
theorem oo_Mo_same_2 {kA : Nat → ClassId} : or_ok PRD kA GG o_Mo_same_2 := by
  refine or_mk fun A ta ws vs hD hth hl => ?_
  intro t0 r0 t3 k3 t4 k4 t5 k5 t6 k6 t8 k8 t9 r9 t11 k11 t12 k12 d0 d1 d2 d3 f0 f1 f2 f3 ta1 w1 le1 s1 f5 f6 f7 f8 f9
  replace f0 := shm_12 f0
  replace f1 := shm_210 f1
  replace f2 := shm_208 f2
  replace f3 := shm_209 f3
  have s1 : (∀ b j, w_el ws b j = if b = v_ad (n_v vs 9) ∧ j = (v_iv (n_v vs 4)).toNat then v_iv (n_v vs 10) else w_el w1 b j) ∧ ∀ b k, w_fd ws b k = w_fd w1 b k := s1.2
  replace f5 := shm_210 f5
  replace f6 := shm_207 f6
  replace f7 := shm_2 f7
  replace f8 := shm_208 f8
  replace f9 := shm_209 f9
  have ar_0_24_1 : w_ar w1 (n_v vs 0) 24 = w_ar ws (n_v vs 0) 24 := congrArg v_ad (s1.2 _ _).symm
  have cr_0_24 := fdq_34 hD hth r0
  have ad_9 : v_ad (n_v vs 9) = w_ar ws (n_v vs 0) 24 := (congrArg v_ad f6).trans ar_0_24_1
  have fe_0_27_1 : w_fi ws (n_v vs 0) 27 = w_fi w1 (n_v vs 0) 27 := congrArg v_iv (s1.2 _ _)
  have kz_0_27 := fdq_33 hD hth r0
  have kb_0_27 := fdq_33 hD hth r0
  obtain ⟨x, ex, hx⟩ := iv_ex (ta := ta) (lo := (-1)) (hi := 40100) (z := 40000 + ((-2) * w_fi ws (n_v vs 0) 27 + (1 * v_iv (n_v vs 12) + 0))) (by omega) (by omega) (by omega) (by omega)
  have ex2 : v_iv (Value.int x) = 40000 + ((-2) * w_fi ws (n_v vs 0) 27 + (1 * v_iv (n_v vs 12) + 0)) := ex
  have ex3 : (-1) ≤ v_iv (Value.int x) ∧ v_iv (Value.int x) ≤ 40100 := tv_rng hx
  have e_0 : n_v (vs ++ [Value.int x]) 0 = n_v vs 0 := n_v_old (by rw [hl]; decide)
  have e_12 : n_v (vs ++ [Value.int x]) 12 = n_v vs 12 := n_v_old (by rw [hl]; decide)
  have e_13 : n_v (vs ++ [Value.int x]) 13 = Value.int x := n_v_new hl
  have nf0 : fc_1 PRD (20, [13, 0, 12], [30, 40000, 1, 0, 0, 2, 1, 27, -1, 0, 0]) ws (vs ++ [Value.int x]) := by
    refine ⟨nf_inA hl rfl, sgq_205 ?_⟩
    · show 1 * v_iv (n_v (vs ++ [Value.int x]) 13) + (2 * w_fi ws (n_v (vs ++ [Value.int x]) 0) 27 + ((-1) * v_iv (n_v (vs ++ [Value.int x]) 12) + 0)) ≤ 40000
      simp only [e_0, e_12, e_13]
      exact vc_Mo_same_2_0 (v_iv (n_v vs 12)) (w_fi ws (n_v vs 0) 27) (w_fi w1 (n_v vs 0) 27) (v_iv (Value.int x)) k12 fe_0_27_1 kz_0_27 ex2
  have nf1 : fc_1 PRD (20, [13, 0, 12], [30, -40000, -1, 0, 0, -2, 1, 27, 1, 0, 0]) ws (vs ++ [Value.int x]) := by
    refine ⟨nf_inA hl rfl, sgq_206 ?_⟩
    · show (-1) * v_iv (n_v (vs ++ [Value.int x]) 13) + ((-2) * w_fi ws (n_v (vs ++ [Value.int x]) 0) 27 + (1 * v_iv (n_v (vs ++ [Value.int x]) 12) + 0)) ≤ (-40000)
      simp only [e_0, e_12, e_13]
      exact vc_Mo_same_2_1 (v_iv (n_v vs 12)) (w_fi ws (n_v vs 0) 27) (w_fi w1 (n_v vs 0) 27) (v_iv (Value.int x)) k12 fe_0_27_1 kz_0_27 ex2
  obtain ⟨x0, e0, _, _⟩ := tv_int t8 rfl
  have e1 : v_iv (n_v vs 8) = x0.toInt := by rw [e0]; rfl
  have ho : sy_ofs (vs ++ [Value.int x]) (13, 8, -1000000000000, -1) := by
    refine ⟨x, x0, by rw [List.getElem?_append_right (by rw [hl]; decide), hl]; rfl, ?_, ?_, ?_⟩
    · rw [List.getElem?_append_left (by rw [hl]; decide)]; exact n_v_some (by rw [hl]; decide) e0
    · show x0.toInt + (-1000000000000) ≤ x.toInt; omega
    · show x.toInt ≤ x0.toInt + (-1); omega
  exact ⟨(fun _ h => (by cases h)), [Value.int x], ag_one hx, List.forall_mem_cons.mpr ⟨⟨show (20 : Nat) < 100 from by decide, nf0⟩, List.forall_mem_cons.mpr ⟨⟨show (20 : Nat) < 100 from by decide, nf1⟩, (fun _ h => (by cases h))⟩⟩, List.forall_mem_cons.mpr ⟨ho, (fun _ h => (by cases h))⟩⟩
set_option maxHeartbeats 4000000 in
theorem vc_Mo_same_3_r0 (x3 : Int) (x5 : Int) (x6 : Int) (k3 : 1 ≤ x3 ∧ x3 ≤ 24) (k5 : 1 ≤ x5 ∧ x5 ≤ 24) (k6 : 1 ≤ x6 ∧ x6 ≤ 1) (d0 : x3 + 0 ≤ x5 ∧ x5 ≤ x3 + 4294967296) (f3 : 1 * x5 + ((-1) * x3 + (25 * x6 + 0)) ≤ 24) : 1 ≤ x5 ∧ x5 ≤ 23 := by
  first | assumption | omega | grind
def o_Mo_same_3 : or_T := (275, 10, [(0, (2, 0, 0, [165])), (3, (0, 1, 24, [])), (4, (0, 0, 23, [])), (5, (0, 1, 24, [])), (6, (0, 1, 1, [])), (8, (0, -1, 40100, []))], [(8, [6], [1]), (7, [5, 3], [3]), (20, [0, 4, 6, 8], [30, -40000, -2, 1, 27, 1, 0, 0, 2, 0, 0, -1, 0, 0]), (23, [5, 3, 6], [24, 1, -1, 25])], [(5, (0, 1, 23, []))], [], [], [], [(5, 3, 0, 4294967296), (4, 3, -4294967296, -1)])
theorem oo_Mo_same_3 {kA : Nat → ClassId} : or_ok PRD kA GG o_Mo_same_3 := by
  refine or_mk fun A ta ws vs hD hth hl => ?_
  intro t0 r0 t3 k3 t4 k4 t5 k5 t6 k6 t8 k8 d0 d1 f0 f1 f2 f3
  have hrf0 : 1 ≤ v_iv (n_v vs 5) ∧ v_iv (n_v vs 5) ≤ 23 := vc_Mo_same_3_r0 (v_iv (n_v vs 3)) (v_iv (n_v vs 5)) (v_iv (n_v vs 6)) k3 k5 k6 d0 (shm_209 f3)
  have rf5 : tv_ok ta (0, 1, 23, []) (n_v vs 5) := tv_in t5 (by omega) (by omega)
  refine ⟨List.forall_mem_cons.mpr ⟨rf5, (fun _ h => (by cases h))⟩, [], trivial, ?_, (fun _ h => (by cases h))⟩
  rw [List.append_nil]
  exact (fun _ h => (by cases h))
set_option maxHeartbeats 4000000 in
theorem vc_Mo_same_4_0 (x11 : Int) (steps_0 : Int) (steps_1 : Int) (gx : Int) (k11 : 1 ≤ x11 ∧ x11 ≤ 24) (fe_0_27_1 : steps_0 = steps_1) (kz_0_27 : 0 ≤ steps_0 ∧ steps_0 ≤ 20000) (ex2 : gx = 40000 + ((-2) * steps_0 + (1 * x11 + 0))) : 1 * gx + (2 * steps_0 + ((-1) * x11 + 0)) ≤ 40000 := by
  subst fe_0_27_1
  first | assumption | omega | grind
set_option maxHeartbeats 4000000 in
theorem vc_Mo_same_4_1 (x11 : Int) (steps_0 : Int) (steps_1 : Int) (gx : Int) (k11 : 1 ≤ x11 ∧ x11 ≤ 24) (fe_0_27_1 : steps_0 = steps_1) (kz_0_27 : 0 ≤ steps_0 ∧ steps_0 ≤ 20000) (ex2 : gx = 40000 + ((-2) * steps_0 + (1 * x11 + 0))) : (-1) * gx + ((-2) * steps_0 + (1 * x11 + 0)) ≤ (-40000) := by
  subst fe_0_27_1
  first | assumption | omega | grind
def o_Mo_same_4 : or_T := (130, 12, [(0, (2, 0, 0, [165])), (3, (0, 1, 24, [])), (4, (0, 0, 23, [])), (5, (0, 1, 23, [])), (6, (0, 1, 1, [])), (8, (0, -1, 40100, [])), (9, (2, 0, 0, [179])), (10, (0, 1, 1, [])), (11, (0, 1, 24, []))], [(1, [11, 4, 10], []), (8, [6], [1]), (20, [0, 4, 6, 8], [30, -40000, -2, 1, 27, 1, 0, 0, 2, 0, 0, -1, 0, 0]), (23, [5, 3, 6], [24, 1, -1, 25]), (100, [9, 4, 5], []), (8, [6], [1]), (9, [9, 0], [24]), (7, [5, 3], [3]), (20, [0, 4, 6, 8], [30, -40000, -2, 1, 27, 1, 0, 0, 2, 0, 0, -1, 0, 0]), (23, [5, 3, 6], [24, 1, -1, 25])], [], [(0, -1, 40100, [])], [(20, [12, 0, 11], [30, 40000, 1, 0, 0, 2, 1, 27, -1, 0, 0]), (20, [12, 0, 11], [30, -40000, -1, 0, 0, -2, 1, 27, 1, 0, 0])], [(12, 8, -1000000000000, -1)], [(11, 4, 1, 1), (11, 3, -4294967296, 0), (5, 3, 0, 4294967296), (4, 3, -4294967296, -1)])
theorem oo_Mo_same_4 {kA : Nat → ClassId} : or_ok PRD kA GG o_Mo_same_4 := by
  refine or_mk fun A ta ws vs hD hth hl => ?_
  intro t0 r0 t3 k3 t4 k4 t5 k5 t6 k6 t8 k8 t9 r9 t10 k10 t11 k11 d0 d1 d2 d3 f0 f1 f2 f3 ta1 w1 le1 s1 f5 f6 f7 f8 f9
  replace f0 := shm_12 f0
  replace f1 := shm_154 f1
  replace f2 := shm_208 f2
  replace f3 := shm_209 f3
  have s1 : (∀ b j, w_el ws b j = if b = v_ad (n_v vs 9) ∧ j = (v_iv (n_v vs 4)).toNat then v_iv (n_v vs 5) else w_el w1 b j) ∧ ∀ b k, w_fd ws b k = w_fd w1 b k := s1.2
  replace f5 := shm_154 f5
  replace f6 := shm_207 f6
  replace f7 := shm_2 f7
  replace f8 := shm_208 f8
  replace f9 := shm_209 f9
  have ar_0_24_1 : w_ar w1 (n_v vs 0) 24 = w_ar ws (n_v vs 0) 24 := congrArg v_ad (s1.2 _ _).symm
  have cr_0_24 := fdq_34 hD hth r0
  have ad_9 : v_ad (n_v vs 9) = w_ar ws (n_v vs 0) 24 := (congrArg v_ad f6).trans ar_0_24_1
  have fe_0_27_1 : w_fi ws (n_v vs 0) 27 = w_fi w1 (n_v vs 0) 27 := congrArg v_iv (s1.2 _ _)
  have kz_0_27 := fdq_33 hD hth r0
  have kb_0_27 := fdq_33 hD hth r0
  obtain ⟨x, ex, hx⟩ := iv_ex (ta := ta) (lo := (-1)) (hi := 40100) (z := 40000 + ((-2) * w_fi ws (n_v vs 0) 27 + (1 * v_iv (n_v vs 11) + 0))) (by omega) (by omega) (by omega) (by omega)
  have ex2 : v_iv (Value.int x) = 40000 + ((-2) * w_fi ws (n_v vs 0) 27 + (1 * v_iv (n_v vs 11) + 0)) := ex
  have ex3 : (-1) ≤ v_iv (Value.int x) ∧ v_iv (Value.int x) ≤ 40100 := tv_rng hx
  have e_0 : n_v (vs ++ [Value.int x]) 0 = n_v vs 0 := n_v_old (by rw [hl]; decide)
  have e_11 : n_v (vs ++ [Value.int x]) 11 = n_v vs 11 := n_v_old (by rw [hl]; decide)
  have e_12 : n_v (vs ++ [Value.int x]) 12 = Value.int x := n_v_new hl
  have nf0 : fc_1 PRD (20, [12, 0, 11], [30, 40000, 1, 0, 0, 2, 1, 27, -1, 0, 0]) ws (vs ++ [Value.int x]) := by
    refine ⟨nf_inA hl rfl, sgq_205 ?_⟩
    · show 1 * v_iv (n_v (vs ++ [Value.int x]) 12) + (2 * w_fi ws (n_v (vs ++ [Value.int x]) 0) 27 + ((-1) * v_iv (n_v (vs ++ [Value.int x]) 11) + 0)) ≤ 40000
      simp only [e_0, e_11, e_12]
      exact vc_Mo_same_4_0 (v_iv (n_v vs 11)) (w_fi ws (n_v vs 0) 27) (w_fi w1 (n_v vs 0) 27) (v_iv (Value.int x)) k11 fe_0_27_1 kz_0_27 ex2
  have nf1 : fc_1 PRD (20, [12, 0, 11], [30, -40000, -1, 0, 0, -2, 1, 27, 1, 0, 0]) ws (vs ++ [Value.int x]) := by
    refine ⟨nf_inA hl rfl, sgq_206 ?_⟩
    · show (-1) * v_iv (n_v (vs ++ [Value.int x]) 12) + ((-2) * w_fi ws (n_v (vs ++ [Value.int x]) 0) 27 + (1 * v_iv (n_v (vs ++ [Value.int x]) 11) + 0)) ≤ (-40000)
      simp only [e_0, e_11, e_12]
      exact vc_Mo_same_4_1 (v_iv (n_v vs 11)) (w_fi ws (n_v vs 0) 27) (w_fi w1 (n_v vs 0) 27) (v_iv (Value.int x)) k11 fe_0_27_1 kz_0_27 ex2
  obtain ⟨x0, e0, _, _⟩ := tv_int t8 rfl
  have e1 : v_iv (n_v vs 8) = x0.toInt := by rw [e0]; rfl
  have ho : sy_ofs (vs ++ [Value.int x]) (12, 8, -1000000000000, -1) := by
    refine ⟨x, x0, by rw [List.getElem?_append_right (by rw [hl]; decide), hl]; rfl, ?_, ?_, ?_⟩
    · rw [List.getElem?_append_left (by rw [hl]; decide)]; exact n_v_some (by rw [hl]; decide) e0
    · show x0.toInt + (-1000000000000) ≤ x.toInt; omega
    · show x.toInt ≤ x0.toInt + (-1); omega
  exact ⟨(fun _ h => (by cases h)), [Value.int x], ag_one hx, List.forall_mem_cons.mpr ⟨⟨show (20 : Nat) < 100 from by decide, nf0⟩, List.forall_mem_cons.mpr ⟨⟨show (20 : Nat) < 100 from by decide, nf1⟩, (fun _ h => (by cases h))⟩⟩, List.forall_mem_cons.mpr ⟨ho, (fun _ h => (by cases h))⟩⟩
set_option maxHeartbeats 4000000 in
theorem vc_Mo_same_5_0 (x11 : Int) (steps_0 : Int) (steps_1 : Int) (gx : Int) (k11 : 1 ≤ x11 ∧ x11 ≤ 24) (fe_0_27_1 : steps_0 = steps_1) (kz_0_27 : 0 ≤ steps_0 ∧ steps_0 ≤ 20000) (ex2 : gx = 40000 + ((-2) * steps_0 + (1 * x11 + 0))) : 1 * gx + (2 * steps_0 + ((-1) * x11 + 0)) ≤ 40000 := by
  subst fe_0_27_1
  first | assumption | omega | grind
set_option maxHeartbeats 4000000 in
theorem vc_Mo_same_5_1 (x11 : Int) (steps_0 : Int) (steps_1 : Int) (gx : Int) (k11 : 1 ≤ x11 ∧ x11 ≤ 24) (fe_0_27_1 : steps_0 = steps_1) (kz_0_27 : 0 ≤ steps_0 ∧ steps_0 ≤ 20000) (ex2 : gx = 40000 + ((-2) * steps_0 + (1 * x11 + 0))) : (-1) * gx + ((-2) * steps_0 + (1 * x11 + 0)) ≤ (-40000) := by
  subst fe_0_27_1
  first | assumption | omega | grind
def o_Mo_same_5 : or_T := (130, 12, [(0, (2, 0, 0, [165])), (3, (0, 1, 24, [])), (4, (0, 0, 23, [])), (5, (0, 0, 23, [])), (6, (0, 1, 1, [])), (8, (0, -1, 40100, [])), (9, (2, 0, 0, [179])), (10, (0, 1, 1, [])), (11, (0, 1, 24, []))], [(1, [11, 4, 10], []), (8, [6], [1]), (20, [0, 4, 6, 8], [30, -40000, -2, 1, 27, 1, 0, 0, 2, 0, 0, -1, 0, 0]), (23, [5, 3, 6], [24, 1, -1, 25]), (100, [9, 4, 5], []), (8, [6], [1]), (9, [9, 0], [24]), (8, [6], [1]), (7, [5, 3], [2]), (20, [0, 4, 6, 8], [30, -40000, -2, 1, 27, 1, 0, 0, 2, 0, 0, -1, 0, 0]), (23, [5, 3, 6], [24, 1, -1, 25])], [], [(0, -1, 40100, [])], [(20, [12, 0, 11], [30, 40000, 1, 0, 0, 2, 1, 27, -1, 0, 0]), (20, [12, 0, 11], [30, -40000, -1, 0, 0, -2, 1, 27, 1, 0, 0])], [(12, 8, -1000000000000, -1)], [(11, 4, 1, 1), (11, 3, -4294967296, 0), (5, 3, -4294967296, -1), (4, 3, -4294967296, -1)])
theorem oo_Mo_same_5 {kA : Nat → ClassId} : or_ok PRD kA GG o_Mo_same_5 := by
  refine or_mk fun A ta ws vs hD hth hl => ?_
  intro t0 r0 t3 k3 t4 k4 t5 k5 t6 k6 t8 k8 t9 r9 t10 k10 t11 k11 d0 d1 d2 d3 f0 f1 f2 f3 ta1 w1 le1 s1 f5 f6 f7 f8 f9 f10
  replace f0 := shm_12 f0
  replace f1 := shm_154 f1
  replace f2 := shm_208 f2
  replace f3 := shm_209 f3
  have s1 : (∀ b j, w_el ws b j = if b = v_ad (n_v vs 9) ∧ j = (v_iv (n_v vs 4)).toNat then v_iv (n_v vs 5) else w_el w1 b j) ∧ ∀ b k, w_fd ws b k = w_fd w1 b k := s1.2
  replace f5 := shm_154 f5
  replace f6 := shm_207 f6
  replace f7 := shm_154 f7
  replace f8 := shm_6 f8
  replace f9 := shm_208 f9
  replace f10 := shm_209 f10
  have ar_0_24_1 : w_ar w1 (n_v vs 0) 24 = w_ar ws (n_v vs 0) 24 := congrArg v_ad (s1.2 _ _).symm
  have cr_0_24 := fdq_34 hD hth r0
  have ad_9 : v_ad (n_v vs 9) = w_ar ws (n_v vs 0) 24 := (congrArg v_ad f6).trans ar_0_24_1
  have fe_0_27_1 : w_fi ws (n_v vs 0) 27 = w_fi w1 (n_v vs 0) 27 := congrArg v_iv (s1.2 _ _)
  have kz_0_27 := fdq_33 hD hth r0
  have kb_0_27 := fdq_33 hD hth r0
  obtain ⟨x, ex, hx⟩ := iv_ex (ta := ta) (lo := (-1)) (hi := 40100) (z := 40000 + ((-2) * w_fi ws (n_v vs 0) 27 + (1 * v_iv (n_v vs 11) + 0))) (by omega) (by omega) (by omega) (by omega)
  have ex2 : v_iv (Value.int x) = 40000 + ((-2) * w_fi ws (n_v vs 0) 27 + (1 * v_iv (n_v vs 11) + 0)) := ex
  have ex3 : (-1) ≤ v_iv (Value.int x) ∧ v_iv (Value.int x) ≤ 40100 := tv_rng hx
  have e_0 : n_v (vs ++ [Value.int x]) 0 = n_v vs 0 := n_v_old (by rw [hl]; decide)
  have e_11 : n_v (vs ++ [Value.int x]) 11 = n_v vs 11 := n_v_old (by rw [hl]; decide)
  have e_12 : n_v (vs ++ [Value.int x]) 12 = Value.int x := n_v_new hl
  have nf0 : fc_1 PRD (20, [12, 0, 11], [30, 40000, 1, 0, 0, 2, 1, 27, -1, 0, 0]) ws (vs ++ [Value.int x]) := by
    refine ⟨nf_inA hl rfl, sgq_205 ?_⟩
    · show 1 * v_iv (n_v (vs ++ [Value.int x]) 12) + (2 * w_fi ws (n_v (vs ++ [Value.int x]) 0) 27 + ((-1) * v_iv (n_v (vs ++ [Value.int x]) 11) + 0)) ≤ 40000
      simp only [e_0, e_11, e_12]
      exact vc_Mo_same_5_0 (v_iv (n_v vs 11)) (w_fi ws (n_v vs 0) 27) (w_fi w1 (n_v vs 0) 27) (v_iv (Value.int x)) k11 fe_0_27_1 kz_0_27 ex2
  have nf1 : fc_1 PRD (20, [12, 0, 11], [30, -40000, -1, 0, 0, -2, 1, 27, 1, 0, 0]) ws (vs ++ [Value.int x]) := by
    refine ⟨nf_inA hl rfl, sgq_206 ?_⟩
    · show (-1) * v_iv (n_v (vs ++ [Value.int x]) 12) + ((-2) * w_fi ws (n_v (vs ++ [Value.int x]) 0) 27 + (1 * v_iv (n_v (vs ++ [Value.int x]) 11) + 0)) ≤ (-40000)
      simp only [e_0, e_11, e_12]
      exact vc_Mo_same_5_1 (v_iv (n_v vs 11)) (w_fi ws (n_v vs 0) 27) (w_fi w1 (n_v vs 0) 27) (v_iv (Value.int x)) k11 fe_0_27_1 kz_0_27 ex2
  obtain ⟨x0, e0, _, _⟩ := tv_int t8 rfl
  have e1 : v_iv (n_v vs 8) = x0.toInt := by rw [e0]; rfl
  have ho : sy_ofs (vs ++ [Value.int x]) (12, 8, -1000000000000, -1) := by
    refine ⟨x, x0, by rw [List.getElem?_append_right (by rw [hl]; decide), hl]; rfl, ?_, ?_, ?_⟩
    · rw [List.getElem?_append_left (by rw [hl]; decide)]; exact n_v_some (by rw [hl]; decide) e0
    · show x0.toInt + (-1000000000000) ≤ x.toInt; omega
    · show x.toInt ≤ x0.toInt + (-1); omega
  exact ⟨(fun _ h => (by cases h)), [Value.int x], ag_one hx, List.forall_mem_cons.mpr ⟨⟨show (20 : Nat) < 100 from by decide, nf0⟩, List.forall_mem_cons.mpr ⟨⟨show (20 : Nat) < 100 from by decide, nf1⟩, (fun _ h => (by cases h))⟩⟩, List.forall_mem_cons.mpr ⟨ho, (fun _ h => (by cases h))⟩⟩
set_option maxHeartbeats 4000000 in
theorem vc_Mo_same_6_0 (x4 : Int) (x6 : Int) (x8 : Int) (steps_0 : Int) (gx : Int) (k4 : 0 ≤ x4 ∧ x4 ≤ 23) (k6 : 0 ≤ x6 ∧ x6 ≤ 0) (k8 : (-1) ≤ x8 ∧ x8 ≤ 40100) (f2 : (-2) * steps_0 + (1 * x4 + (2 * x6 + ((-1) * x8 + 0))) ≤ (-40000)) (kz_0_27 : 0 ≤ steps_0 ∧ steps_0 ≤ 20000) (ex2 : gx = 0 + (1 * x8 + 0)) : (-2) * steps_0 + (1 * x4 + (2 * x6 + ((-1) * gx + 0))) ≤ (-40000) := by
  first | assumption | omega | grind
set_option maxHeartbeats 4000000 in
theorem vc_Mo_same_6_1 (x3 : Int) (x5 : Int) (k3 : 1 ≤ x3 ∧ x3 ≤ 24) (k5 : 0 ≤ x5 ∧ x5 ≤ 23) (d0 : x3 + (-4294967296) ≤ x5 ∧ x5 ≤ x3 + (-1)) : 1 * x5 + ((-1) * x3 + 0) ≤ (-1) := by
  first | assumption | omega | grind
def o_Mo_same_6 : or_T := (172, 11, [(0, (2, 0, 0, [165])), (3, (0, 1, 24, [])), (4, (0, 0, 23, [])), (5, (0, 0, 23, [])), (6, (0, 0, 0, [])), (8, (0, -1, 40100, []))], [(8, [6], [0]), (7, [5, 3], [2]), (20, [0, 4, 6, 8], [30, -40000, -2, 1, 27, 1, 0, 0, 2, 0, 0, -1, 0, 0]), (23, [5, 3, 6], [24, 1, -1, 25])], [], [(0, -1, 40100, [])], [(20, [0, 4, 6, 11], [30, -40000, -2, 1, 27, 1, 0, 0, 2, 0, 0, -1, 0, 0]), (23, [5, 3], [-1, 1, -1])], [(11, 8, 0, 0)], [(5, 3, -4294967296, -1), (4, 3, -4294967296, -1)])
theorem oo_Mo_same_6 {kA : Nat → ClassId} : or_ok PRD kA GG o_Mo_same_6 := by
  refine or_mk fun A ta ws vs hD hth hl => ?_
  intro t0 r0 t3 k3 t4 k4 t5 k5 t6 k6 t8 k8 d0 d1 f0 f1 f2 f3
  replace f0 := shm_210 f0
  replace f1 := shm_6 f1
  replace f2 := shm_208 f2
  replace f3 := shm_209 f3
  have kz_0_27 := fdq_33 hD hth r0
  obtain ⟨x, ex, hx⟩ := iv_ex (ta := ta) (lo := (-1)) (hi := 40100) (z := 0 + (1 * v_iv (n_v vs 8) + 0)) (by omega) (by omega) (by omega) (by omega)
  have ex2 : v_iv (Value.int x) = 0 + (1 * v_iv (n_v vs 8) + 0) := ex
  have ex3 : (-1) ≤ v_iv (Value.int x) ∧ v_iv (Value.int x) ≤ 40100 := tv_rng hx
  have e_0 : n_v (vs ++ [Value.int x]) 0 = n_v vs 0 := n_v_old (by rw [hl]; decide)
  have e_3 : n_v (vs ++ [Value.int x]) 3 = n_v vs 3 := n_v_old (by rw [hl]; decide)
  have e_4 : n_v (vs ++ [Value.int x]) 4 = n_v vs 4 := n_v_old (by rw [hl]; decide)
  have e_5 : n_v (vs ++ [Value.int x]) 5 = n_v vs 5 := n_v_old (by rw [hl]; decide)
  have e_6 : n_v (vs ++ [Value.int x]) 6 = n_v vs 6 := n_v_old (by rw [hl]; decide)
  have e_11 : n_v (vs ++ [Value.int x]) 11 = Value.int x := n_v_new hl
  have nf0 : fc_1 PRD (20, [0, 4, 6, 11], [30, -40000, -2, 1, 27, 1, 0, 0, 2, 0, 0, -1, 0, 0]) ws (vs ++ [Value.int x]) := by
    refine ⟨nf_inA hl rfl, sgq_208 ?_⟩
    · show (-2) * w_fi ws (n_v (vs ++ [Value.int x]) 0) 27 + (1 * v_iv (n_v (vs ++ [Value.int x]) 4) + (2 * v_iv (n_v (vs ++ [Value.int x]) 6) + ((-1) * v_iv (n_v (vs ++ [Value.int x]) 11) + 0))) ≤ (-40000)
      simp only [e_0, e_4, e_6, e_11]
      exact vc_Mo_same_6_0 (v_iv (n_v vs 4)) (v_iv (n_v vs 6)) (v_iv (n_v vs 8)) (w_fi ws (n_v vs 0) 27) (v_iv (Value.int x)) k4 k6 k8 f2 kz_0_27 ex2
  have nf1 : fc_1 PRD (23, [5, 3], [-1, 1, -1]) ws (vs ++ [Value.int x]) := by
    refine ⟨nf_inA hl rfl, sgq_211 ?_⟩
    · show 1 * v_iv (n_v (vs ++ [Value.int x]) 5) + ((-1) * v_iv (n_v (vs ++ [Value.int x]) 3) + 0) ≤ (-1)
      simp only [e_3, e_5]
      exact vc_Mo_same_6_1 (v_iv (n_v vs 3)) (v_iv (n_v vs 5)) k3 k5 d0
  obtain ⟨x0, e0, _, _⟩ := tv_int t8 rfl
  have e1 : v_iv (n_v vs 8) = x0.toInt := by rw [e0]; rfl
  have ho : sy_ofs (vs ++ [Value.int x]) (11, 8, 0, 0) := by
    refine ⟨x, x0, by rw [List.getElem?_append_right (by rw [hl]; decide), hl]; rfl, ?_, ?_, ?_⟩
    · rw [List.getElem?_append_left (by rw [hl]; decide)]; exact n_v_some (by rw [hl]; decide) e0
    · show x0.toInt + 0 ≤ x.toInt; omega
    · show x.toInt ≤ x0.toInt + 0; omega
  exact ⟨(fun _ h => (by cases h)), [Value.int x], ag_one hx, List.forall_mem_cons.mpr ⟨⟨show (20 : Nat) < 100 from by decide, nf0⟩, List.forall_mem_cons.mpr ⟨⟨show (23 : Nat) < 100 from by decide, nf1⟩, (fun _ h => (by cases h))⟩⟩, List.forall_mem_cons.mpr ⟨ho, (fun _ h => (by cases h))⟩⟩
set_option maxHeartbeats 4000000 in
theorem vc_Mo_same_7_0 (x4 : Int) (x6 : Int) (x8 : Int) (x9 : Int) (steps_0 : Int) (gx : Int) (k4 : 1 ≤ x4 ∧ x4 ≤ 23) (k6 : 0 ≤ x6 ∧ x6 ≤ 0) (k8 : 1 ≤ x8 ∧ x8 ≤ 23) (k9 : (-1) ≤ x9 ∧ x9 ≤ 40100) (d2 : x4 + 0 ≤ x8 ∧ x8 ≤ x4 + 4294967296) (d6 : x4 + (-4294967296) ≤ x8 ∧ x8 ≤ x4 + 0) (f3 : (-2) * steps_0 + (1 * x4 + (2 * x6 + ((-1) * x9 + 0))) ≤ (-40000)) (kz_0_27 : 0 ≤ steps_0 ∧ steps_0 ≤ 20000) (ex2 : gx = 0 + (1 * x9 + 0)) : (-2) * steps_0 + (1 * x4 + (2 * x6 + ((-1) * gx + 0))) ≤ (-40000) := by
  first | assumption | omega | grind
set_option maxHeartbeats 4000000 in
theorem vc_Mo_same_7_1 (x3 : Int) (x5 : Int) (x6 : Int) (x10 : Int) (k3 : 2 ≤ x3 ∧ x3 ≤ 24) (k5 : 0 ≤ x5 ∧ x5 ≤ 23) (k6 : 0 ≤ x6 ∧ x6 ≤ 0) (k10 : 1 ≤ x10 ∧ x10 ≤ 24) (d0 : x5 + 1 ≤ x10 ∧ x10 ≤ x5 + 1) (d1 : x3 + (-4294967296) ≤ x10 ∧ x10 ≤ x3 + 0) (d4 : x3 + (-4294967296) ≤ x5 ∧ x5 ≤ x3 + (-1)) : 1 * x10 + ((-1) * x3 + (25 * x6 + 0)) ≤ 24 := by
  first | assumption | omega | grind
def o_Mo_same_7 : or_T := (155, 11, [(0, (2, 0, 0, [165])), (3, (0, 2, 24, [])), (4, (0, 1, 23, [])), (5, (0, 0, 23, [])), (6, (0, 0, 0, [])), (8, (0, 1, 23, [])), (9, (0, -1, 40100, [])), (10, (0, 1, 24, []))], [(6, [10, 5], [1]), (8, [6], [0]), (7, [8, 4], [3]), (20, [0, 4, 6, 9], [30, -40000, -2, 1, 27, 1, 0, 0, 2, 0, 0, -1, 0, 0]), (23, [5, 3], [-1, 1, -1])], [], [(0, -1, 40100, [])], [(20, [0, 4, 6, 11], [30, -40000, -2, 1, 27, 1, 0, 0, 2, 0, 0, -1, 0, 0]), (23, [10, 3, 6], [24, 1, -1, 25])], [(11, 9, 0, 0)], [(10, 5, 1, 1), (10, 3, -4294967296, 0), (8, 4, 0, 4294967296), (4, 3, -4294967296, -1), (5, 3, -4294967296, -1), (8, 3, -4294967296, -1), (8, 4, -4294967296, 0)])
theorem oo_Mo_same_7 {kA : Nat → ClassId} : or_ok PRD kA GG o_Mo_same_7 := by
  refine or_mk fun A ta ws vs hD hth hl => ?_
  intro t0 r0 t3 k3 t4 k4 t5 k5 t6 k6 t8 k8 t9 k9 t10 k10 d0 d1 d2 d3 d4 d5 d6 f0 f1 f2 f3 f4
  replace f0 := shm_4 f0
  replace f1 := shm_210 f1
  replace f2 := shm_2 f2
  replace f3 := shm_208 f3
  replace f4 := shm_211 f4
  have kz_0_27 := fdq_33 hD hth r0
  obtain ⟨x, ex, hx⟩ := iv_ex (ta := ta) (lo := (-1)) (hi := 40100) (z := 0 + (1 * v_iv (n_v vs 9) + 0)) (by omega) (by omega) (by omega) (by omega)
  have ex2 : v_iv (Value.int x) = 0 + (1 * v_iv (n_v vs 9) + 0) := ex
  have ex3 : (-1) ≤ v_iv (Value.int x) ∧ v_iv (Value.int x) ≤ 40100 := tv_rng hx
  have e_0 : n_v (vs ++ [Value.int x]) 0 = n_v vs 0 := n_v_old (by rw [hl]; decide)
  have e_3 : n_v (vs ++ [Value.int x]) 3 = n_v vs 3 := n_v_old (by rw [hl]; decide)
  have e_4 : n_v (vs ++ [Value.int x]) 4 = n_v vs 4 := n_v_old (by rw [hl]; decide)
  have e_6 : n_v (vs ++ [Value.int x]) 6 = n_v vs 6 := n_v_old (by rw [hl]; decide)
  have e_10 : n_v (vs ++ [Value.int x]) 10 = n_v vs 10 := n_v_old (by rw [hl]; decide)
  have e_11 : n_v (vs ++ [Value.int x]) 11 = Value.int x := n_v_new hl
  have nf0 : fc_1 PRD (20, [0, 4, 6, 11], [30, -40000, -2, 1, 27, 1, 0, 0, 2, 0, 0, -1, 0, 0]) ws (vs ++ [Value.int x]) := by
    refine ⟨nf_inA hl rfl, sgq_208 ?_⟩
    · show (-2) * w_fi ws (n_v (vs ++ [Value.int x]) 0) 27 + (1 * v_iv (n_v (vs ++ [Value.int x]) 4) + (2 * v_iv (n_v (vs ++ [Value.int x]) 6) + ((-1) * v_iv (n_v (vs ++ [Value.int x]) 11) + 0))) ≤ (-40000)
      simp only [e_0, e_4, e_6, e_11]
      exact vc_Mo_same_7_0 (v_iv (n_v vs 4)) (v_iv (n_v vs 6)) (v_iv (n_v vs 8)) (v_iv (n_v vs 9)) (w_fi ws (n_v vs 0) 27) (v_iv (Value.int x)) k4 k6 k8 k9 d2 d6 f3 kz_0_27 ex2
  have nf1 : fc_1 PRD (23, [10, 3, 6], [24, 1, -1, 25]) ws (vs ++ [Value.int x]) := by
    refine ⟨nf_inA hl rfl, sgq_209 ?_⟩
    · show 1 * v_iv (n_v (vs ++ [Value.int x]) 10) + ((-1) * v_iv (n_v (vs ++ [Value.int x]) 3) + (25 * v_iv (n_v (vs ++ [Value.int x]) 6) + 0)) ≤ 24
      simp only [e_3, e_6, e_10]
      exact vc_Mo_same_7_1 (v_iv (n_v vs 3)) (v_iv (n_v vs 5)) (v_iv (n_v vs 6)) (v_iv (n_v vs 10)) k3 k5 k6 k10 d0 d1 d4
  obtain ⟨x0, e0, _, _⟩ := tv_int t9 rfl
  have e1 : v_iv (n_v vs 9) = x0.toInt := by rw [e0]; rfl
  have ho : sy_ofs (vs ++ [Value.int x]) (11, 9, 0, 0) := by
    refine ⟨x, x0, by rw [List.getElem?_append_right (by rw [hl]; decide), hl]; rfl, ?_, ?_, ?_⟩
    · rw [List.getElem?_append_left (by rw [hl]; decide)]; exact n_v_some (by rw [hl]; decide) e0
    · show x0.toInt + 0 ≤ x.toInt; omega
    · show x.toInt ≤ x0.toInt + 0; omega
  exact ⟨(fun _ h => (by cases h)), [Value.int x], ag_one hx, List.forall_mem_cons.mpr ⟨⟨show (20 : Nat) < 100 from by decide, nf0⟩, List.forall_mem_cons.mpr ⟨⟨show (23 : Nat) < 100 from by decide, nf1⟩, (fun _ h => (by cases h))⟩⟩, List.forall_mem_cons.mpr ⟨ho, (fun _ h => (by cases h))⟩⟩
set_option maxHeartbeats 4000000 in
theorem vc_Mo_same_8_0 (x4 : Int) (x6 : Int) (x8 : Int) (x9 : Int) (x10 : Int) (x13 : Int) (x14 : Int) (steps_1 : Int) (steps_0 : Int) (gx : Int) (k4 : 0 ≤ x4 ∧ x4 ≤ 23) (k6 : 0 ≤ x6 ∧ x6 ≤ 0) (k8 : 0 ≤ x8 ∧ x8 ≤ 23) (k9 : (-1) ≤ x9 ∧ x9 ≤ 40100) (k10 : 0 ≤ x10 ∧ x10 ≤ 19999) (k13 : 1 ≤ x13 ∧ x13 ≤ 20000) (k14 : 1 ≤ x14 ∧ x14 ≤ 1) (d0 : x10 + 1 ≤ x13 ∧ x13 ≤ x10 + 1) (d1 : x4 + 0 ≤ x8 ∧ x8 ≤ x4 + 4294967296) (d5 : x4 + (-4294967296) ≤ x8 ∧ x8 ≤ x4 + 0) (g4 : x10 = steps_1) (f7 : (-2) * steps_1 + (1 * x4 + (2 * x6 + ((-1) * x9 + 0))) ≤ (-40000)) (fe_0_27_1 : steps_0 = x13) (kz_0_27 : 0 ≤ steps_0 ∧ steps_0 ≤ 20000) (ex2 : gx = 0 + (1 * x9 + 0)) : (-2) * steps_0 + (1 * x4 + (2 * x14 + ((-1) * gx + 0))) ≤ (-40000) := by
  first | assumption | omega | grind
set_option maxHeartbeats 4000000 in
theorem vc_Mo_same_8_1 (x3 : Int) (x5 : Int) (x14 : Int) (k3 : 1 ≤ x3 ∧ x3 ≤ 24) (k5 : 0 ≤ x5 ∧ x5 ≤ 23) (k14 : 1 ≤ x14 ∧ x14 ≤ 1) (d3 : x3 + (-4294967296) ≤ x5 ∧ x5 ≤ x3 + (-1)) : 1 * x5 + ((-1) * x3 + (25 * x14 + 0)) ≤ 24 := by
  first | assumption | omega | grind
def o_Mo_same_8 : or_T := (155, 15, [(0, (2, 0, 0, [165])), (3, (0, 1, 24, [])), (4, (0, 0, 23, [])), (5, (0, 0, 23, [])), (6, (0, 0, 0, [])), (8, (0, 0, 23, [])), (9, (0, -1, 40100, [])), (10, (0, 0, 19999, [])), (11, (0, 20000, 20000, [])), (12, (0, 1, 1, [])), (13, (0, 1, 20000, [])), (14, (0, 1, 1, []))], [(8, [14], [1]), (23, [5, 3], [-1, 1, -1]), (101, [0, 13], [27]), (1, [13, 10, 12], []), (9, [10, 0], [27]), (7, [10, 11], [1]), (7, [8, 4], [3]), (20, [0, 4, 6, 9], [30, -40000, -2, 1, 27, 1, 0, 0, 2, 0, 0, -1, 0, 0]), (23, [5, 3], [-1, 1, -1])], [], [(0, -1, 40100, [])], [(20, [0, 4, 14, 15], [30, -40000, -2, 1, 27, 1, 0, 0, 2, 0, 0, -1, 0, 0]), (23, [5, 3, 14], [24, 1, -1, 25])], [(15, 9, 0, 0)], [(13, 10, 1, 1), (8, 4, 0, 4294967296), (4, 3, -4294967296, -1), (5, 3, -4294967296, -1), (8, 3, -4294967296, -1), (8, 4, -4294967296, 0)])
theorem oo_Mo_same_8 {kA : Nat → ClassId} : or_ok PRD kA GG o_Mo_same_8 := by
  refine or_mk fun A ta ws vs hD hth hl => ?_
  intro t0 r0 t3 k3 t4 k4 t5 k5 t6 k6 t8 k8 t9 k9 t10 k10 t11 k11 t12 k12 t13 k13 t14 k14 d0 d1 d2 d3 d4 d5 f0 f1 ta1 w1 le1 s1 f3 f4 f5 f6 f7 f8
  replace f0 := shm_154 f0
  replace f1 := shm_211 f1
  have s1 : (∀ b j, w_el ws b j = w_el w1 b j) ∧ ∀ b j, w_fd ws b j = if b = v_ad (n_v vs 0) ∧ j = 27 then n_v vs 13 else w_fd w1 b j := s1.2
  replace f3 := shm_12 f3
  replace f4 := shm_212 f4
  replace f5 := shm_40 f5
  replace f6 := shm_2 f6
  replace f7 := shm_208 f7
  replace f8 := shm_211 f8
  have g4 : v_iv (n_v vs 10) = w_fi w1 (n_v vs 0) 27 := congrArg v_iv f4
  have fe_0_27_1 : w_fi ws (n_v vs 0) 27 = v_iv (n_v vs 13) := by show v_iv (w_fd _ _ _) = _; rw [s1.2, if_pos ⟨rfl, rfl⟩]
  have kz_0_27 := fdq_33 hD hth r0
  obtain ⟨x, ex, hx⟩ := iv_ex (ta := ta) (lo := (-1)) (hi := 40100) (z := 0 + (1 * v_iv (n_v vs 9) + 0)) (by omega) (by omega) (by omega) (by omega)
  have ex2 : v_iv (Value.int x) = 0 + (1 * v_iv (n_v vs 9) + 0) := ex
  have ex3 : (-1) ≤ v_iv (Value.int x) ∧ v_iv (Value.int x) ≤ 40100 := tv_rng hx
  have e_0 : n_v (vs ++ [Value.int x]) 0 = n_v vs 0 := n_v_old (by rw [hl]; decide)
  have e_3 : n_v (vs ++ [Value.int x]) 3 = n_v vs 3 := n_v_old (by rw [hl]; decide)
  have e_4 : n_v (vs ++ [Value.int x]) 4 = n_v vs 4 := n_v_old (by rw [hl]; decide)
  have e_5 : n_v (vs ++ [Value.int x]) 5 = n_v vs 5 := n_v_old (by rw [hl]; decide)
  have e_14 : n_v (vs ++ [Value.int x]) 14 = n_v vs 14 := n_v_old (by rw [hl]; decide)
  have e_15 : n_v (vs ++ [Value.int x]) 15 = Value.int x := n_v_new hl
  have nf0 : fc_1 PRD (20, [0, 4, 14, 15], [30, -40000, -2, 1, 27, 1, 0, 0, 2, 0, 0, -1, 0, 0]) ws (vs ++ [Value.int x]) := by
    refine ⟨nf_inA hl rfl, sgq_208 ?_⟩
    · show (-2) * w_fi ws (n_v (vs ++ [Value.int x]) 0) 27 + (1 * v_iv (n_v (vs ++ [Value.int x]) 4) + (2 * v_iv (n_v (vs ++ [Value.int x]) 14) + ((-1) * v_iv (n_v (vs ++ [Value.int x]) 15) + 0))) ≤ (-40000)
      simp only [e_0, e_4, e_14, e_15]
      exact vc_Mo_same_8_0 (v_iv (n_v vs 4)) (v_iv (n_v vs 6)) (v_iv (n_v vs 8)) (v_iv (n_v vs 9)) (v_iv (n_v vs 10)) (v_iv (n_v vs 13)) (v_iv (n_v vs 14)) (w_fi w1 (n_v vs 0) 27) (w_fi ws (n_v vs 0) 27) (v_iv (Value.int x)) k4 k6 k8 k9 k10 k13 k14 d0 d1 d5 g4 f7 fe_0_27_1 kz_0_27 ex2
  have nf1 : fc_1 PRD (23, [5, 3, 14], [24, 1, -1, 25]) ws (vs ++ [Value.int x]) := by
    refine ⟨nf_inA hl rfl, sgq_209 ?_⟩
    · show 1 * v_iv (n_v (vs ++ [Value.int x]) 5) + ((-1) * v_iv (n_v (vs ++ [Value.int x]) 3) + (25 * v_iv (n_v (vs ++ [Value.int x]) 14) + 0)) ≤ 24
      simp only [e_3, e_5, e_14]
      exact vc_Mo_same_8_1 (v_iv (n_v vs 3)) (v_iv (n_v vs 5)) (v_iv (n_v vs 14)) k3 k5 k14 d3
  obtain ⟨x0, e0, _, _⟩ := tv_int t9 rfl
  have e1 : v_iv (n_v vs 9) = x0.toInt := by rw [e0]; rfl
  have ho : sy_ofs (vs ++ [Value.int x]) (15, 9, 0, 0) := by
    refine ⟨x, x0, by rw [List.getElem?_append_right (by rw [hl]; decide), hl]; rfl, ?_, ?_, ?_⟩
    · rw [List.getElem?_append_left (by rw [hl]; decide)]; exact n_v_some (by rw [hl]; decide) e0
    · show x0.toInt + 0 ≤ x.toInt; omega
    · show x.toInt ≤ x0.toInt + 0; omega
  exact ⟨(fun _ h => (by cases h)), [Value.int x], ag_one hx, List.forall_mem_cons.mpr ⟨⟨show (20 : Nat) < 100 from by decide, nf0⟩, List.forall_mem_cons.mpr ⟨⟨show (23 : Nat) < 100 from by decide, nf1⟩, (fun _ h => (by cases h))⟩⟩, List.forall_mem_cons.mpr ⟨ho, (fun _ h => (by cases h))⟩⟩
set_option maxHeartbeats 4000000 in
theorem vc_Mo_same_9_0 (x4 : Int) (x6 : Int) (x8 : Int) (x9 : Int) (x10 : Int) (x13 : Int) (x14 : Int) (steps_1 : Int) (steps_0 : Int) (gx : Int) (k4 : 0 ≤ x4 ∧ x4 ≤ 23) (k6 : 0 ≤ x6 ∧ x6 ≤ 0) (k8 : 0 ≤ x8 ∧ x8 ≤ 23) (k9 : (-1) ≤ x9 ∧ x9 ≤ 40100) (k10 : 0 ≤ x10 ∧ x10 ≤ 19999) (k13 : 1 ≤ x13 ∧ x13 ≤ 20000) (k14 : 0 ≤ x14 ∧ x14 ≤ 0) (d2 : x10 + 1 ≤ x13 ∧ x13 ≤ x10 + 1) (d3 : x4 + 0 ≤ x8 ∧ x8 ≤ x4 + 4294967296) (d7 : x4 + (-4294967296) ≤ x8 ∧ x8 ≤ x4 + 0) (g5 : x10 = steps_1) (f8 : (-2) * steps_1 + (1 * x4 + (2 * x6 + ((-1) * x9 + 0))) ≤ (-40000)) (fe_0_27_1 : steps_0 = x13) (kz_0_27 : 0 ≤ steps_0 ∧ steps_0 ≤ 20000) (ex2 : gx = 0 + (1 * x9 + 0)) : (-2) * steps_0 + (1 * x4 + (2 * x14 + ((-1) * gx + 0))) ≤ (-40000) := by
  first | assumption | omega | grind
set_option maxHeartbeats 4000000 in
theorem vc_Mo_same_9_1 (x3 : Int) (x5 : Int) (x14 : Int) (x15 : Int) (k3 : 1 ≤ x3 ∧ x3 ≤ 24) (k5 : 0 ≤ x5 ∧ x5 ≤ 23) (k14 : 0 ≤ x14 ∧ x14 ≤ 0) (k15 : 1 ≤ x15 ∧ x15 ≤ 24) (d0 : x5 + 1 ≤ x15 ∧ x15 ≤ x5 + 1) (d1 : x3 + (-4294967296) ≤ x15 ∧ x15 ≤ x3 + 0) (d5 : x3 + (-4294967296) ≤ x5 ∧ x5 ≤ x3 + (-1)) : 1 * x15 + ((-1) * x3 + (25 * x14 + 0)) ≤ 24 := by
  first | assumption | omega | grind
def o_Mo_same_9 : or_T := (155, 16, [(0, (2, 0, 0, [165])), (3, (0, 1, 24, [])), (4, (0, 0, 23, [])), (5, (0, 0, 23, [])), (6, (0, 0, 0, [])), (8, (0, 0, 23, [])), (9, (0, -1, 40100, [])), (10, (0, 0, 19999, [])), (11, (0, 20000, 20000, [])), (12, (0, 1, 1, [])), (13, (0, 1, 20000, [])), (14, (0, 0, 0, [])), (15, (0, 1, 24, []))], [(6, [15, 5], [1]), (8, [14], [0]), (23, [5, 3], [-1, 1, -1]), (101, [0, 13], [27]), (1, [13, 10, 12], []), (9, [10, 0], [27]), (7, [10, 11], [1]), (7, [8, 4], [3]), (20, [0, 4, 6, 9], [30, -40000, -2, 1, 27, 1, 0, 0, 2, 0, 0, -1, 0, 0]), (23, [5, 3], [-1, 1, -1])], [], [(0, -1, 40100, [])], [(20, [0, 4, 14, 16], [30, -40000, -2, 1, 27, 1, 0, 0, 2, 0, 0, -1, 0, 0]), (23, [15, 3, 14], [24, 1, -1, 25])], [(16, 9, 0, 0)], [(15, 5, 1, 1), (15, 3, -4294967296, 0), (13, 10, 1, 1), (8, 4, 0, 4294967296), (4, 3, -4294967296, -1), (5, 3, -4294967296, -1), (8, 3, -4294967296, -1), (8, 4, -4294967296, 0)])
theorem oo_Mo_same_9 {kA : Nat → ClassId} : or_ok PRD kA GG o_Mo_same_9 := by
  refine or_mk fun A ta ws vs hD hth hl => ?_
  intro t0 r0 t3 k3 t4 k4 t5 k5 t6 k6 t8 k8 t9 k9 t10 k10 t11 k11 t12 k12 t13 k13 t14 k14 t15 k15 d0 d1 d2 d3 d4 d5 d6 d7 f0 f1 f2 ta1 w1 le1 s1 f4 f5 f6 f7 f8 f9
  replace f0 := shm_4 f0
  replace f1 := shm_210 f1
  replace f2 := shm_211 f2
  have s1 : (∀ b j, w_el ws b j = w_el w1 b j) ∧ ∀ b j, w_fd ws b j = if b = v_ad (n_v vs 0) ∧ j = 27 then n_v vs 13 else w_fd w1 b j := s1.2
  replace f4 := shm_12 f4
  replace f5 := shm_212 f5
  replace f6 := shm_40 f6
  replace f7 := shm_2 f7
  replace f8 := shm_208 f8
  replace f9 := shm_211 f9
  have g5 : v_iv (n_v vs 10) = w_fi w1 (n_v vs 0) 27 := congrArg v_iv f5
  have fe_0_27_1 : w_fi ws (n_v vs 0) 27 = v_iv (n_v vs 13) := by show v_iv (w_fd _ _ _) = _; rw [s1.2, if_pos ⟨rfl, rfl⟩]
  have kz_0_27 := fdq_33 hD hth r0
  obtain ⟨x, ex, hx⟩ := iv_ex (ta := ta) (lo := (-1)) (hi := 40100) (z := 0 + (1 * v_iv (n_v vs 9) + 0)) (by omega) (by omega) (by omega) (by omega)
  have ex2 : v_iv (Value.int x) = 0 + (1 * v_iv (n_v vs 9) + 0) := ex
  have ex3 : (-1) ≤ v_iv (Value.int x) ∧ v_iv (Value.int x) ≤ 40100 := tv_rng hx
  have e_0 : n_v (vs ++ [Value.int x]) 0 = n_v vs 0 := n_v_old (by rw [hl]; decide)
  have e_3 : n_v (vs ++ [Value.int x]) 3 = n_v vs 3 := n_v_old (by rw [hl]; decide)
  have e_4 : n_v (vs ++ [Value.int x]) 4 = n_v vs 4 := n_v_old (by rw [hl]; decide)
  have e_14 : n_v (vs ++ [Value.int x]) 14 = n_v vs 14 := n_v_old (by rw [hl]; decide)
  have e_15 : n_v (vs ++ [Value.int x]) 15 = n_v vs 15 := n_v_old (by rw [hl]; decide)
  have e_16 : n_v (vs ++ [Value.int x]) 16 = Value.int x := n_v_new hl
  have nf0 : fc_1 PRD (20, [0, 4, 14, 16], [30, -40000, -2, 1, 27, 1, 0, 0, 2, 0, 0, -1, 0, 0]) ws (vs ++ [Value.int x]) := by
    refine ⟨nf_inA hl rfl, sgq_208 ?_⟩
    · show (-2) * w_fi ws (n_v (vs ++ [Value.int x]) 0) 27 + (1 * v_iv (n_v (vs ++ [Value.int x]) 4) + (2 * v_iv (n_v (vs ++ [Value.int x]) 14) + ((-1) * v_iv (n_v (vs ++ [Value.int x]) 16) + 0))) ≤ (-40000)
      simp only [e_0, e_4, e_14, e_16]
      exact vc_Mo_same_9_0 (v_iv (n_v vs 4)) (v_iv (n_v vs 6)) (v_iv (n_v vs 8)) (v_iv (n_v vs 9)) (v_iv (n_v vs 10)) (v_iv (n_v vs 13)) (v_iv (n_v vs 14)) (w_fi w1 (n_v vs 0) 27) (w_fi ws (n_v vs 0) 27) (v_iv (Value.int x)) k4 k6 k8 k9 k10 k13 k14 d2 d3 d7 g5 f8 fe_0_27_1 kz_0_27 ex2
  have nf1 : fc_1 PRD (23, [15, 3, 14], [24, 1, -1, 25]) ws (vs ++ [Value.int x]) := by
    refine ⟨nf_inA hl rfl, sgq_209 ?_⟩
    · show 1 * v_iv (n_v (vs ++ [Value.int x]) 15) + ((-1) * v_iv (n_v (vs ++ [Value.int x]) 3) + (25 * v_iv (n_v (vs ++ [Value.int x]) 14) + 0)) ≤ 24
      simp only [e_3, e_14, e_15]
      exact vc_Mo_same_9_1 (v_iv (n_v vs 3)) (v_iv (n_v vs 5)) (v_iv (n_v vs 14)) (v_iv (n_v vs 15)) k3 k5 k14 k15 d0 d1 d5
  obtain ⟨x0, e0, _, _⟩ := tv_int t9 rfl
  have e1 : v_iv (n_v vs 9) = x0.toInt := by rw [e0]; rfl
  have ho : sy_ofs (vs ++ [Value.int x]) (16, 9, 0, 0) := by
    refine ⟨x, x0, by rw [List.getElem?_append_right (by rw [hl]; decide), hl]; rfl, ?_, ?_, ?_⟩
    · rw [List.getElem?_append_left (by rw [hl]; decide)]; exact n_v_some (by rw [hl]; decide) e0
    · show x0.toInt + 0 ≤ x.toInt; omega
    · show x.toInt ≤ x0.toInt + 0; omega
  exact ⟨(fun _ h => (by cases h)), [Value.int x], ag_one hx, List.forall_mem_cons.mpr ⟨⟨show (20 : Nat) < 100 from by decide, nf0⟩, List.forall_mem_cons.mpr ⟨⟨show (23 : Nat) < 100 from by decide, nf1⟩, (fun _ h => (by cases h))⟩⟩, List.forall_mem_cons.mpr ⟨ho, (fun _ h => (by cases h))⟩⟩
def n_Mo_same_an : List an_T := [(110, [(0, (2, 0, 0, [165])), (1, (0, 0, 3, [])), (2, (0, 0, 3, [])), (3, (0, 0, 24, [])), (4, (0, 0, 0, [])), (5, (0, 0, 24, []))], [], (0, 0), [(0, 0, 99890), (1, 5, 24), (0, 0, 100000), (0, 0, 0), (0, 0, 0), (0, 0, 0), (0, 0, 0), (0, 0, 0)], [(5, 3, (Int.negSucc 999999999999), 0)], [], [], 0, [], []), (130, [(0, (2, 0, 0, [165])), (1, (0, 0, 3, [])), (2, (0, 0, 3, [])), (3, (0, 0, 24, [])), (4, (0, (Int.negSucc 0), 24, [])), (5, (0, 0, 24, []))], [], (0, 0), [(0, 0, 99870), (2, 7, (Int.negSucc 0)), (0, 0, 100000), (0, 0, 0), (0, 0, 0), (0, 0, 0), (0, 0, 0), (0, 0, 0)], [(4, 3, (Int.negSucc 999999999999), 0), (5, 3, (Int.negSucc 999999999999), 23)], [((0, 27), (0, 0, 20000, []))], [], 0, [(0, (Int.negSucc 0), 40100, [])], [(20, [7, 0, 4], [30, 40000, 1, 0, 0, 2, 1, 27, (Int.negSucc 0), 0, 0]), (20, [7, 0, 4], [30, (Int.negSucc 39999), (Int.negSucc 0), 0, 0, (Int.negSucc 1), 1, 27, 1, 0, 0])]), (155, [(0, (2, 0, 0, [165])), (1, (0, 0, 3, [])), (2, (0, 0, 3, [])), (3, (0, 1, 24, [])), (4, (0, 0, 23, [])), (5, (0, 0, 24, [])), (6, (0, 0, 1, []))], [], (0, 0), [(0, 0, 99870), (2, 8, (Int.negSucc 0)), (0, 0, 99845), (1, 5, 24), (1, 6, 1), (0, 0, 100000), (0, 0, 0), (0, 0, 0)], [(4, 3, (Int.negSucc 999999999999), (Int.negSucc 0)), (6, 7, (Int.negSucc 999999999999), 0)], [((0, 27), (0, 0, 20000, []))], [], 0, [(0, (Int.negSucc 0), 40100, [])], [(20, [0, 4, 6, 8], [30, (Int.negSucc 39999), (Int.negSucc 1), 1, 27, 1, 0, 0, 2, 0, 0, (Int.negSucc 0), 0, 0]), (23, [5, 3, 6], [24, 1, (Int.negSucc 0), 25])]), (172, [(0, (2, 0, 0, [165])), (1, (0, 0, 3, [])), (2, (0, 0, 3, [])), (3, (0, 1, 24, [])), (4, (0, 0, 23, [])), (5, (0, 0, 23, [])), (6, (0, 0, 0, [])), (7, (0, 0, 1, [])), (8, (0, 0, 23, []))], [], (0, 0), [(0, 0, 99870), (2, 9, (Int.negSucc 0)), (0, 0, 99845), (1, 5, 24), (1, 6, 1), (0, 0, 99828), (1, 8, 23), (0, 0, 100000)], [(4, 3, (Int.negSucc 999999999999), (Int.negSucc 0)), (5, 3, (Int.negSucc 999999999999), (Int.negSucc 0)), (7, 3, (Int.negSucc 999999999999), (Int.negSucc 0)), (7, 4, (Int.negSucc 999999999999), 0), (7, 8, (Int.negSucc 999999999999), 0), (8, 3, (Int.negSucc 999999999999), (Int.negSucc 0)), (8, 4, (Int.negSucc 999999999999), 0)], [], [], 0, [(0, (Int.negSucc 0), 40100, [])], [(20, [0, 4, 6, 9], [30, (Int.negSucc 39999), (Int.negSucc 1), 1, 27, 1, 0, 0, 2, 0, 0, (Int.negSucc 0), 0, 0]), (23, [5, 3], [(Int.negSucc 0), 1, (Int.negSucc 0)])]), (314, [(0, (2, 0, 0, [165])), (1, (0, 0, 3, [])), (2, (0, 0, 3, [])), (3, (0, 0, 24, [])), (4, (0, 0, 24, [])), (5, (0, 0, 24, []))], [], (0, 0), [(0, 0, 99686), (1, 5, 24), (0, 0, 100000), (0, 0, 0), (0, 0, 0), (0, 0, 0), (0, 0, 0), (0, 0, 0)], [(3, 4, (Int.negSucc 999999999999), 0), (4, 3, (Int.negSucc 999999999999), 0), (5, 3, (Int.negSucc 999999999999), 0), (5, 4, (Int.negSucc 999999999999), 0)], [], [], 0, [], [])]
def t_Mo_same_ct : ct_L := [(0, 372, e_Mo_rowOf), (0, 521, e_Mo_isPlace), (1, 578, e_Mo_fits)]
set_option maxRecDepth 100000 in
theorem c_Mo_same {l : Launch} {D : va_G} {kA : Nat → ClassId} (h_Mo_fits : ct_ok PRD l D kA GG y_Mo_fits z_Mo_fits e_Mo_fits) (h_Mo_isPlace : ct_ok PRD l D kA GG y_Mo_isPlace z_Mo_isPlace e_Mo_isPlace) (h_Mo_rowOf : ct_ok PRD l D kA GG y_Mo_rowOf z_Mo_rowOf e_Mo_rowOf) : ct_ok PRD l D kA GG y_Mo_same z_Mo_same e_Mo_same := chk_all_ok (FT := [(16, 13, 2), (20, 13, 3), (51, 13, 23), (54, 13, 24), (566, 13, 28), (569, 13, 29), (572, 13, 27)]) (PT := [(566, 13, 28, .int), (569, 13, 29, .int), (572, 13, 27, .int), (575, 13, 30, .boolean), (581, 13, 25, .boolean), (584, 13, 26, .int)]) (CT := t_Mo_same_ct) (KT := []) (NT := []) (AN := n_Mo_same_an) (OT := [o_Mo_same_0, o_Mo_same_1, o_Mo_same_2, o_Mo_same_3, o_Mo_same_4, o_Mo_same_5, o_Mo_same_6, o_Mo_same_7, o_Mo_same_8, o_Mo_same_9]) 8 928 (List.forall_mem_cons.mpr ⟨oo_Mo_same_0, List.forall_mem_cons.mpr ⟨oo_Mo_same_1, List.forall_mem_cons.mpr ⟨oo_Mo_same_2, List.forall_mem_cons.mpr ⟨oo_Mo_same_3, List.forall_mem_cons.mpr ⟨oo_Mo_same_4, List.forall_mem_cons.mpr ⟨oo_Mo_same_5, List.forall_mem_cons.mpr ⟨oo_Mo_same_6, List.forall_mem_cons.mpr ⟨oo_Mo_same_7, List.forall_mem_cons.mpr ⟨oo_Mo_same_8, List.forall_mem_cons.mpr ⟨oo_Mo_same_9, List.forall_mem_nil _⟩⟩⟩⟩⟩⟩⟩⟩⟩⟩) (by decide +kernel) ⟨List.forall_mem_cons.mpr ⟨gf_Mo_16, List.forall_mem_cons.mpr ⟨gf_Mo_20, List.forall_mem_cons.mpr ⟨gf_Mo_51, List.forall_mem_cons.mpr ⟨gf_Mo_54, List.forall_mem_cons.mpr ⟨gf_Mo_566, List.forall_mem_cons.mpr ⟨gf_Mo_569, List.forall_mem_cons.mpr ⟨gf_Mo_572, List.forall_mem_nil _⟩⟩⟩⟩⟩⟩⟩, List.forall_mem_cons.mpr ⟨pf_Mo_566, List.forall_mem_cons.mpr ⟨pf_Mo_569, List.forall_mem_cons.mpr ⟨pf_Mo_572, List.forall_mem_cons.mpr ⟨pf_Mo_575, List.forall_mem_cons.mpr ⟨pf_Mo_581, List.forall_mem_cons.mpr ⟨pf_Mo_584, List.forall_mem_nil _⟩⟩⟩⟩⟩⟩, List.forall_mem_cons.mpr ⟨cl_static (y := y_Mo_rowOf) h_Mo_rowOf wm_2420 wm_9 wm_2418 wm_2419 ⟨by decide, by decide, by decide +kernel⟩ (by decide), List.forall_mem_cons.mpr ⟨cl_static (y := y_Mo_isPlace) h_Mo_isPlace wm_2978 wm_9 wm_2976 wm_2977 ⟨by decide, by decide, by decide +kernel⟩ (by decide), List.forall_mem_cons.mpr ⟨cl_virtual (y := y_Mo_fits) (ci := 13) rfl rfl ⟨_, _, rfl⟩ (by decide +kernel) h_Mo_fits wm_3123 wm_9 wm_3120 wm_3122 wv_14_8 ⟨by decide, by decide, by decide +kernel⟩ (by decide), List.forall_mem_nil _⟩⟩⟩, List.forall_mem_nil _, List.forall_mem_nil _, GG_pl⟩ (by decide +kernel)
def n_Mo_shade_an : List an_T := []
def t_Mo_shade_ct : ct_L := [(0, 387, e_Mo_in), (0, 521, e_Mo_isPlace), (1, 401, e_Mo_edges), (1, 475, e_Mo_nodes), (1, 527, e_Mo_take)]
set_option maxRecDepth 100000 in
theorem c_Mo_shade {l : Launch} {D : va_G} {kA : Nat → ClassId} (h_Mo_edges : ct_ok PRD l D kA GG y_Mo_edges z_Mo_edges e_Mo_edges) (h_Mo_in : ct_ok PRD l D kA GG y_Mo_in z_Mo_in e_Mo_in) (h_Mo_isPlace : ct_ok PRD l D kA GG y_Mo_isPlace z_Mo_isPlace e_Mo_isPlace) (h_Mo_nodes : ct_ok PRD l D kA GG y_Mo_nodes z_Mo_nodes e_Mo_nodes) (h_Mo_take : ct_ok PRD l D kA GG y_Mo_take z_Mo_take e_Mo_take) : ct_ok PRD l D kA GG y_Mo_shade z_Mo_shade e_Mo_shade := chk_all_ok (FT := [(156, 13, 73)]) (PT := []) (CT := t_Mo_shade_ct) (KT := []) (NT := []) (AN := n_Mo_shade_an) (OT := []) 0 396 (List.forall_mem_nil _) (by decide +kernel) ⟨List.forall_mem_cons.mpr ⟨gf_Mo_156, List.forall_mem_nil _⟩, List.forall_mem_nil _, List.forall_mem_cons.mpr ⟨cl_static (y := y_Mo_in) h_Mo_in wm_2971 wm_9 wm_2969 wm_2970 ⟨by decide, by decide, by decide +kernel⟩ (by decide), List.forall_mem_cons.mpr ⟨cl_static (y := y_Mo_isPlace) h_Mo_isPlace wm_2978 wm_9 wm_2976 wm_2977 ⟨by decide, by decide, by decide +kernel⟩ (by decide), List.forall_mem_cons.mpr ⟨cl_virtual (y := y_Mo_edges) (ci := 13) rfl rfl ⟨_, _, rfl⟩ (by decide +kernel) h_Mo_edges wm_3037 wm_9 wm_3034 wm_3036 wv_13_6 ⟨by decide, by decide, by decide +kernel⟩ (by decide), List.forall_mem_cons.mpr ⟨cl_virtual (y := y_Mo_nodes) (ci := 13) rfl rfl ⟨_, _, rfl⟩ (by decide +kernel) h_Mo_nodes wm_3025 wm_9 wm_3022 wm_3024 wv_13_3 ⟨by decide, by decide, by decide +kernel⟩ (by decide), List.forall_mem_cons.mpr ⟨cl_virtual (y := y_Mo_take) (ci := 13) rfl rfl ⟨_, _, rfl⟩ (by decide +kernel) h_Mo_take wm_3091 wm_9 wm_3088 wm_3090 wv_14_2 ⟨by decide, by decide, by decide +kernel⟩ (by decide), List.forall_mem_nil _⟩⟩⟩⟩⟩, List.forall_mem_nil _, List.forall_mem_nil _, GG_pl⟩ (by decide +kernel)
def n_Ho_told_an : List an_T := []
def t_Ho_told_ct : ct_L := [(0, 115, e_Ho_isPlace), (1, 316, e_Dr_report)]
set_option maxRecDepth 100000 in
theorem c_Ho_told {l : Launch} {D : va_G} {kA : Nat → ClassId} (h_Dr_report : ct_ok PRD l D kA GG y_Dr_report z_Dr_report e_Dr_report) (h_Ho_isPlace : ct_ok PRD l D kA GG y_Ho_isPlace z_Ho_isPlace e_Ho_isPlace) : ct_ok PRD l D kA GG y_Ho_told z_Ho_told e_Ho_told := chk_all_ok (FT := [(31, 12, 3)]) (PT := []) (CT := t_Ho_told_ct) (KT := []) (NT := []) (AN := n_Ho_told_an) (OT := []) 0 200 (List.forall_mem_nil _) (by decide +kernel) ⟨List.forall_mem_cons.mpr ⟨gf_Ho_31, List.forall_mem_nil _⟩, List.forall_mem_nil _, List.forall_mem_cons.mpr ⟨cl_static (y := y_Ho_isPlace) h_Ho_isPlace wm_633 wm_1 wm_631 wm_632 ⟨by decide, by decide, by decide +kernel⟩ (by decide), List.forall_mem_cons.mpr ⟨cl_virtual (y := y_Dr_report) (ci := 0) rfl rfl ⟨_, _, rfl⟩ (by decide +kernel) h_Dr_report wm_1832 wm_8 wm_1829 wm_1830 wm_1831 ⟨by decide, by decide, by decide +kernel⟩ (by decide), List.forall_mem_nil _⟩⟩, List.forall_mem_nil _, List.forall_mem_nil _, GG_pl⟩ (by decide +kernel)
def n_Dr_clash_an : List an_T := [(80, [(0, (2, 0, 0, [0])), (1, (0, 0, 47, [])), (2, (0, 0, 24, [])), (3, (0, 1, 47, [])), (4, (0, 0, 24, [])), (5, (0, (Int.negSucc 0), 23, [])), (6, (0, (Int.negSucc 1041999999), 1042000000, [])), (7, (0, (Int.negSucc 1041999999), 1042000000, []))], [], (0, 0), [(0, 0, 99920)], [], [], [], 0, [], []), (190, [(0, (2, 0, 0, [0])), (1, (0, 0, 47, [])), (2, (0, 0, 24, [])), (3, (0, 1, 47, [])), (4, (0, 0, 24, [])), (5, (0, (Int.negSucc 0), 23, [])), (6, (0, 0, 1042000000, [])), (7, (0, 0, 1042000000, [])), (8, (1, (Int.negSucc 2171527999999999999), 2171528000000000000, [])), (10, (1, (Int.negSucc 2171527999999999999), 2171528000000000000, [])), (12, (1, (Int.negSucc 2171527999999999999), 2171528000000000000, [])), (14, (1, (Int.negSucc 2171527999999999999), 2171528000000000000, []))], [], (0, 0), [(0, 0, 99810)], [], [], [], 0, [], []), (204, [(0, (2, 0, 0, [0])), (1, (0, 0, 47, [])), (2, (0, 0, 24, [])), (3, (0, 1, 47, [])), (4, (0, 0, 24, [])), (5, (0, (Int.negSucc 0), 23, [])), (6, (0, 0, 1042000000, [])), (7, (0, 0, 1042000000, [])), (8, (1, (Int.negSucc 2171527999999999999), 2171528000000000000, [])), (10, (1, (Int.negSucc 2171527999999999999), 2171528000000000000, [])), (12, (1, (Int.negSucc 2171527999999999999), 2171528000000000000, [])), (14, (1, (Int.negSucc 2171527999999999999), 2171528000000000000, []))], [], (0, 0), [(0, 0, 99796)], [], [], [], 0, [], []), (218, [(0, (2, 0, 0, [0])), (1, (0, 0, 47, [])), (2, (0, 0, 24, [])), (3, (0, 1, 47, [])), (4, (0, 0, 24, [])), (5, (0, (Int.negSucc 0), 23, [])), (6, (0, 0, 1042000000, [])), (7, (0, 0, 1042000000, [])), (8, (1, (Int.negSucc 2171527999999999999), 2171528000000000000, [])), (10, (1, (Int.negSucc 2171527999999999999), 2171528000000000000, [])), (12, (1, (Int.negSucc 2171527999999999999), 2171528000000000000, [])), (14, (1, (Int.negSucc 2171527999999999999), 2171528000000000000, []))], [], (0, 0), [(0, 0, 99782)], [], [], [], 0, [], []), (232, [(0, (2, 0, 0, [0])), (1, (0, 0, 47, [])), (2, (0, 0, 24, [])), (3, (0, 1, 47, [])), (4, (0, 0, 24, [])), (5, (0, (Int.negSucc 0), 23, [])), (6, (0, 0, 1042000000, [])), (7, (0, 0, 1042000000, [])), (8, (1, (Int.negSucc 2171527999999999999), 2171528000000000000, [])), (10, (1, (Int.negSucc 2171527999999999999), 2171528000000000000, [])), (12, (1, (Int.negSucc 2171527999999999999), 2171528000000000000, [])), (14, (1, (Int.negSucc 2171527999999999999), 2171528000000000000, []))], [], (0, 0), [(0, 0, 99768)], [], [], [], 0, [], []), (234, [(0, (2, 0, 0, [0])), (1, (0, 0, 47, [])), (2, (0, 0, 24, [])), (3, (0, 1, 47, [])), (4, (0, 0, 24, [])), (5, (0, (Int.negSucc 0), 23, [])), (6, (0, 0, 1042000000, [])), (7, (0, 0, 1042000000, [])), (8, (1, (Int.negSucc 2171527999999999999), 2171528000000000000, [])), (10, (1, (Int.negSucc 2171527999999999999), 2171528000000000000, [])), (12, (1, (Int.negSucc 2171527999999999999), 2171528000000000000, [])), (14, (1, (Int.negSucc 2171527999999999999), 2171528000000000000, []))], [], (0, 0), [(0, 0, 99766)], [], [], [], 0, [], []), (287, [(0, (2, 0, 0, [0])), (1, (0, 0, 47, [])), (2, (0, 0, 24, [])), (3, (0, 1, 47, [])), (4, (0, 0, 24, [])), (5, (0, (Int.negSucc 0), 23, [])), (6, (0, 0, 1042000000, [])), (7, (0, 0, 1042000000, [])), (8, (1, (Int.negSucc 2171527999999999999), 2171528000000000000, [])), (10, (1, (Int.negSucc 2171527999999999999), 2171528000000000000, [])), (12, (1, (Int.negSucc 2171527999999999999), 2171528000000000000, [])), (14, (1, (Int.negSucc 2171527999999999999), 2171528000000000000, []))], [], (0, 0), [(0, 0, 99713)], [], [], [], 0, [], []), (321, [(0, (2, 0, 0, [0])), (1, (0, 0, 47, [])), (2, (0, 0, 24, [])), (3, (0, 1, 47, [])), (4, (0, 0, 24, [])), (5, (0, 0, 23, [])), (6, (0, 0, 1042000000, [])), (7, (0, 0, 1042000000, [])), (8, (1, (Int.negSucc 2171527999999999999), 2171528000000000000, [])), (10, (1, (Int.negSucc 2171527999999999999), 2171528000000000000, [])), (12, (1, (Int.negSucc 2171527999999999999), 2171528000000000000, [])), (14, (1, (Int.negSucc 2171527999999999999), 2171528000000000000, []))], [], (0, 0), [(0, 0, 99679)], [], [], [], 0, [], []), (322, [(0, (2, 0, 0, [0])), (1, (0, 0, 47, [])), (2, (0, 0, 24, [])), (3, (0, 1, 47, [])), (4, (0, 0, 24, [])), (5, (0, 0, 23, [])), (6, (0, 0, 1042000000, [])), (7, (0, 0, 1042000000, [])), (8, (1, (Int.negSucc 2171527999999999999), 2171528000000000000, [])), (10, (1, (Int.negSucc 2171527999999999999), 2171528000000000000, [])), (12, (1, (Int.negSucc 2171527999999999999), 2171528000000000000, [])), (14, (1, (Int.negSucc 2171527999999999999), 2171528000000000000, []))], [(0, 0, 1, [])], (0, 0), [(0, 0, 99678)], [], [], [], 0, [], []), (339, [(0, (2, 0, 0, [0])), (1, (0, 0, 47, [])), (2, (0, 0, 24, [])), (3, (0, 1, 47, [])), (4, (0, 0, 24, [])), (5, (0, 0, 23, [])), (6, (0, 0, 1042000000, [])), (7, (0, 0, 1042000000, [])), (8, (1, (Int.negSucc 2171527999999999999), 2171528000000000000, [])), (10, (1, (Int.negSucc 2171527999999999999), 2171528000000000000, [])), (12, (1, (Int.negSucc 2171527999999999999), 2171528000000000000, [])), (14, (1, (Int.negSucc 2171527999999999999), 2171528000000000000, [])), (16, (0, 1, 1, []))], [], (0, 0), [(0, 0, 99661)], [], [], [], 0, [], []), (343, [(0, (2, 0, 0, [0])), (1, (0, 0, 47, [])), (2, (0, 0, 24, [])), (3, (0, 1, 47, [])), (4, (0, 0, 24, [])), (5, (0, 0, 23, [])), (6, (0, 0, 1042000000, [])), (7, (0, 0, 1042000000, [])), (8, (1, (Int.negSucc 2171527999999999999), 2171528000000000000, [])), (10, (1, (Int.negSucc 2171527999999999999), 2171528000000000000, [])), (12, (1, (Int.negSucc 2171527999999999999), 2171528000000000000, [])), (14, (1, (Int.negSucc 2171527999999999999), 2171528000000000000, [])), (16, (0, 0, 1, []))], [], (0, 0), [(0, 0, 99657)], [], [], [], 0, [], []), (344, [(0, (2, 0, 0, [0])), (1, (0, 0, 47, [])), (2, (0, 0, 24, [])), (3, (0, 1, 47, [])), (4, (0, 0, 24, [])), (5, (0, 0, 23, [])), (6, (0, 0, 1042000000, [])), (7, (0, 0, 1042000000, [])), (8, (1, (Int.negSucc 2171527999999999999), 2171528000000000000, [])), (10, (1, (Int.negSucc 2171527999999999999), 2171528000000000000, [])), (12, (1, (Int.negSucc 2171527999999999999), 2171528000000000000, [])), (14, (1, (Int.negSucc 2171527999999999999), 2171528000000000000, [])), (16, (0, 0, 1, []))], [(0, 0, 1, [])], (0, 0), [(0, 0, 99656)], [], [], [], 0, [], [])]
def t_Dr_clash_ct : ct_L := [(1, 198, e_Dr_sideOf), (1, 206, e_Dr_isOnPiece), (13, 128, e_Dr_pointX_np), (37, 128, e_Dr_pointX_np), (58, 128, e_Dr_pointX_np), (85, 128, e_Dr_pointX_np), (93, 202, e_Dr_overlap_np), (118, 134, e_Dr_pointY_np), (142, 134, e_Dr_pointY_np), (163, 134, e_Dr_pointY_np), (190, 134, e_Dr_pointY_np), (198, 202, e_Dr_overlap_np), (271, 128, e_Dr_pointX_np), (289, 134, e_Dr_pointY_np), (340, 128, e_Dr_pointX_np), (364, 134, e_Dr_pointY_np), (409, 128, e_Dr_pointX_np), (430, 134, e_Dr_pointY_np), (481, 128, e_Dr_pointX_np), (508, 134, e_Dr_pointY_np)]
set_option maxRecDepth 100000 in
theorem c_Dr_clash {l : Launch} {D : va_G} {kA : Nat → ClassId} (h_Dr_isOnPiece : ct_ok PRD l D kA GG y_Dr_isOnPiece z_Dr_isOnPiece e_Dr_isOnPiece) (h_Dr_overlap : ct_ok PRD l D kA GG y_Dr_overlap z_Dr_overlap e_Dr_overlap) (h_Dr_pointX : ct_ok PRD l D kA GG y_Dr_pointX z_Dr_pointX e_Dr_pointX) (h_Dr_pointY : ct_ok PRD l D kA GG y_Dr_pointY z_Dr_pointY e_Dr_pointY) (h_Dr_sideOf : ct_ok PRD l D kA GG y_Dr_sideOf z_Dr_sideOf e_Dr_sideOf) : ct_ok PRD l D kA GG y_Dr_clash z_Dr_clash e_Dr_clash := chk_all_ok (FT := [(15, 0, 2), (19, 0, 3)]) (PT := []) (CT := t_Dr_clash_ct) (KT := []) (NT := []) (AN := n_Dr_clash_an) (OT := []) 1 772 (List.forall_mem_nil _) (by decide +kernel) ⟨List.forall_mem_cons.mpr ⟨gf_Dr_15, List.forall_mem_cons.mpr ⟨gf_Dr_19, List.forall_mem_nil _⟩⟩, List.forall_mem_nil _, List.forall_mem_cons.mpr ⟨cl_virtual (y := y_Dr_sideOf) (ci := 0) rfl rfl ⟨_, _, rfl⟩ (by decide +kernel) h_Dr_sideOf wm_2030 wm_8 wm_2027 wm_2029 wv_9_14 ⟨by decide, by decide, by decide +kernel⟩ (by decide), List.forall_mem_cons.mpr ⟨cl_virtual (y := y_Dr_isOnPiece) (ci := 0) rfl rfl ⟨_, _, rfl⟩ (by decide +kernel) h_Dr_isOnPiece wm_2034 wm_8 wm_2031 wm_2033 wv_9_15 ⟨by decide, by decide, by decide +kernel⟩ (by decide), List.forall_mem_cons.mpr ⟨cl_nopa (cl_virtual (y := y_Dr_pointX) (ci := 0) rfl rfl ⟨_, _, rfl⟩ (by decide +kernel) h_Dr_pointX wm_1986 wm_8 wm_1983 wm_1984 wm_1985 ⟨by decide, by decide, by decide +kernel⟩ (by decide)), List.forall_mem_cons.mpr ⟨cl_nopa (cl_virtual (y := y_Dr_pointX) (ci := 0) rfl rfl ⟨_, _, rfl⟩ (by decide +kernel) h_Dr_pointX wm_1986 wm_8 wm_1983 wm_1984 wm_1985 ⟨by decide, by decide, by decide +kernel⟩ (by decide)), List.forall_mem_cons.mpr ⟨cl_nopa (cl_virtual (y := y_Dr_pointX) (ci := 0) rfl rfl ⟨_, _, rfl⟩ (by decide +kernel) h_Dr_pointX wm_1986 wm_8 wm_1983 wm_1984 wm_1985 ⟨by decide, by decide, by decide +kernel⟩ (by decide)), List.forall_mem_cons.mpr ⟨cl_nopa (cl_virtual (y := y_Dr_pointX) (ci := 0) rfl rfl ⟨_, _, rfl⟩ (by decide +kernel) h_Dr_pointX wm_1986 wm_8 wm_1983 wm_1984 wm_1985 ⟨by decide, by decide, by decide +kernel⟩ (by decide)), List.forall_mem_cons.mpr ⟨cl_nopa (cl_static (y := y_Dr_overlap) h_Dr_overlap wm_2024 wm_8 wm_2022 wm_2023 ⟨by decide, by decide, by decide +kernel⟩ (by decide)), List.forall_mem_cons.mpr ⟨cl_nopa (cl_virtual (y := y_Dr_pointY) (ci := 0) rfl rfl ⟨_, _, rfl⟩ (by decide +kernel) h_Dr_pointY wm_1991 wm_8 wm_1988 wm_1989 wm_1990 ⟨by decide, by decide, by decide +kernel⟩ (by decide)), List.forall_mem_cons.mpr ⟨cl_nopa (cl_virtual (y := y_Dr_pointY) (ci := 0) rfl rfl ⟨_, _, rfl⟩ (by decide +kernel) h_Dr_pointY wm_1991 wm_8 wm_1988 wm_1989 wm_1990 ⟨by decide, by decide, by decide +kernel⟩ (by decide)), List.forall_mem_cons.mpr ⟨cl_nopa (cl_virtual (y := y_Dr_pointY) (ci := 0) rfl rfl ⟨_, _, rfl⟩ (by decide +kernel) h_Dr_pointY wm_1991 wm_8 wm_1988 wm_1989 wm_1990 ⟨by decide, by decide, by decide +kernel⟩ (by decide)), List.forall_mem_cons.mpr ⟨cl_nopa (cl_virtual (y := y_Dr_pointY) (ci := 0) rfl rfl ⟨_, _, rfl⟩ (by decide +kernel) h_Dr_pointY wm_1991 wm_8 wm_1988 wm_1989 wm_1990 ⟨by decide, by decide, by decide +kernel⟩ (by decide)), List.forall_mem_cons.mpr ⟨cl_nopa (cl_static (y := y_Dr_overlap) h_Dr_overlap wm_2024 wm_8 wm_2022 wm_2023 ⟨by decide, by decide, by decide +kernel⟩ (by decide)), List.forall_mem_cons.mpr ⟨cl_nopa (cl_virtual (y := y_Dr_pointX) (ci := 0) rfl rfl ⟨_, _, rfl⟩ (by decide +kernel) h_Dr_pointX wm_1986 wm_8 wm_1983 wm_1984 wm_1985 ⟨by decide, by decide, by decide +kernel⟩ (by decide)), List.forall_mem_cons.mpr ⟨cl_nopa (cl_virtual (y := y_Dr_pointY) (ci := 0) rfl rfl ⟨_, _, rfl⟩ (by decide +kernel) h_Dr_pointY wm_1991 wm_8 wm_1988 wm_1989 wm_1990 ⟨by decide, by decide, by decide +kernel⟩ (by decide)), List.forall_mem_cons.mpr ⟨cl_nopa (cl_virtual (y := y_Dr_pointX) (ci := 0) rfl rfl ⟨_, _, rfl⟩ (by decide +kernel) h_Dr_pointX wm_1986 wm_8 wm_1983 wm_1984 wm_1985 ⟨by decide, by decide, by decide +kernel⟩ (by decide)), List.forall_mem_cons.mpr ⟨cl_nopa (cl_virtual (y := y_Dr_pointY) (ci := 0) rfl rfl ⟨_, _, rfl⟩ (by decide +kernel) h_Dr_pointY wm_1991 wm_8 wm_1988 wm_1989 wm_1990 ⟨by decide, by decide, by decide +kernel⟩ (by decide)), List.forall_mem_cons.mpr ⟨cl_nopa (cl_virtual (y := y_Dr_pointX) (ci := 0) rfl rfl ⟨_, _, rfl⟩ (by decide +kernel) h_Dr_pointX wm_1986 wm_8 wm_1983 wm_1984 wm_1985 ⟨by decide, by decide, by decide +kernel⟩ (by decide)), List.forall_mem_cons.mpr ⟨cl_nopa (cl_virtual (y := y_Dr_pointY) (ci := 0) rfl rfl ⟨_, _, rfl⟩ (by decide +kernel) h_Dr_pointY wm_1991 wm_8 wm_1988 wm_1989 wm_1990 ⟨by decide, by decide, by decide +kernel⟩ (by decide)), List.forall_mem_cons.mpr ⟨cl_nopa (cl_virtual (y := y_Dr_pointX) (ci := 0) rfl rfl ⟨_, _, rfl⟩ (by decide +kernel) h_Dr_pointX wm_1986 wm_8 wm_1983 wm_1984 wm_1985 ⟨by decide, by decide, by decide +kernel⟩ (by decide)), List.forall_mem_cons.mpr ⟨cl_nopa (cl_virtual (y := y_Dr_pointY) (ci := 0) rfl rfl ⟨_, _, rfl⟩ (by decide +kernel) h_Dr_pointY wm_1991 wm_8 wm_1988 wm_1989 wm_1990 ⟨by decide, by decide, by decide +kernel⟩ (by decide)), List.forall_mem_nil _⟩⟩⟩⟩⟩⟩⟩⟩⟩⟩⟩⟩⟩⟩⟩⟩⟩⟩⟩⟩, List.forall_mem_nil _, List.forall_mem_nil _, GG_pl⟩ (by decide +kernel)
def n_Dr_countStruckNodes_an : List an_T := [(4, [(0, (2, 0, 0, [0])), (1, (1, (Int.negSucc 9223372036854775807), 9223372036854775807, [])), (3, (0, 0, 48, []))], [], (0, 0), [(0, 0, 99996), (1, 2, 48), (0, 0, 100000), (0, 0, 0), (0, 0, 0)], [], [], [], 0, [], []), (18, [(0, (2, 0, 0, [0])), (1, (1, (Int.negSucc 9223372036854775807), 9223372036854775807, [])), (3, (0, 0, 47, [])), (4, (0, 0, 24, []))], [], (0, 0), [(0, 0, 99996), (1, 2, 48), (0, 0, 99982), (1, 3, 24), (0, 0, 100000)], [], [], [], 0, [], [])]
def t_Dr_countStruckNodes_ct : ct_L := [(1, 210, e_Dr_isStruck)]
set_option maxRecDepth 100000 in
theorem c_Dr_countStruckNodes {l : Launch} {D : va_G} {kA : Nat → ClassId} (h_Dr_isStruck : ct_ok PRD l D kA GG y_Dr_isStruck z_Dr_isStruck e_Dr_isStruck) : ct_ok PRD l D kA GG y_Dr_countStruckNodes z_Dr_countStruckNodes e_Dr_countStruckNodes := chk_all_ok (FT := [(74, 0, 0), (106, 3, 7), (109, 3, 8), (141, 3, 0), (151, 3, 1)]) (PT := []) (CT := t_Dr_countStruckNodes_ct) (KT := []) (NT := []) (AN := n_Dr_countStruckNodes_an) (OT := []) 5 204 (List.forall_mem_nil _) (by decide +kernel) ⟨List.forall_mem_cons.mpr ⟨gf_Dr_74, List.forall_mem_cons.mpr ⟨gf_Dr_106, List.forall_mem_cons.mpr ⟨gf_Dr_109, List.forall_mem_cons.mpr ⟨gf_Dr_141, List.forall_mem_cons.mpr ⟨gf_Dr_151, List.forall_mem_nil _⟩⟩⟩⟩⟩, List.forall_mem_nil _, List.forall_mem_cons.mpr ⟨cl_virtual (y := y_Dr_isStruck) (ci := 0) rfl rfl ⟨_, _, rfl⟩ (by decide +kernel) h_Dr_isStruck wm_2046 wm_8 wm_2043 wm_2045 wv_10_2 ⟨by decide, by decide, by decide +kernel⟩ (by decide), List.forall_mem_nil _⟩, List.forall_mem_nil _, List.forall_mem_nil _, GG_pl⟩ (by decide +kernel)
def n_Dr_putLabel_an : List an_T := [(2, [(0, (2, 0, 0, [0])), (1, (0, 0, 47, [])), (2, (0, 0, 25, []))], [], (0, 0), [(0, 0, 99998), (1, 2, 25), (0, 0, 100000)], [], [], [], 0, [], [])]
def t_Dr_putLabel_ct : ct_L := [(1, 137, e_Dr_isFree), (49, 128, e_Dr_pointX_np), (73, 128, e_Dr_pointX_np), (87, 131, e_jMath_floorDiv1_v154), (109, 134, e_Dr_pointY_np), (133, 134, e_Dr_pointY_np), (147, 131, e_jMath_floorDiv1_v154)]
set_option maxRecDepth 100000 in
theorem c_Dr_putLabel {l : Launch} {D : va_G} {kA : Nat → ClassId} (h_Dr_isFree : ct_ok PRD l D kA GG y_Dr_isFree z_Dr_isFree e_Dr_isFree) (h_Dr_pointX : ct_ok PRD l D kA GG y_Dr_pointX z_Dr_pointX e_Dr_pointX) (h_Dr_pointY : ct_ok PRD l D kA GG y_Dr_pointY z_Dr_pointY e_Dr_pointY) : ct_ok PRD l D kA GG y_Dr_putLabel z_Dr_putLabel e_Dr_putLabel := chk_all_ok (FT := [(22, 0, 4), (56, 0, 15), (59, 0, 16)]) (PT := []) (CT := t_Dr_putLabel_ct) (KT := []) (NT := []) (AN := n_Dr_putLabel_an) (OT := []) 3 224 (List.forall_mem_nil _) (by decide +kernel) ⟨List.forall_mem_cons.mpr ⟨gf_Dr_22, List.forall_mem_cons.mpr ⟨gf_Dr_56, List.forall_mem_cons.mpr ⟨gf_Dr_59, List.forall_mem_nil _⟩⟩⟩, List.forall_mem_nil _, List.forall_mem_cons.mpr ⟨cl_virtual (y := y_Dr_isFree) (ci := 0) rfl rfl ⟨_, _, rfl⟩ (by decide +kernel) h_Dr_isFree wm_1995 wm_8 wm_1992 wm_1994 wv_9_10 ⟨by decide, by decide, by decide +kernel⟩ (by decide), List.forall_mem_cons.mpr ⟨cl_nopa (cl_virtual (y := y_Dr_pointX) (ci := 0) rfl rfl ⟨_, _, rfl⟩ (by decide +kernel) h_Dr_pointX wm_1986 wm_8 wm_1983 wm_1984 wm_1985 ⟨by decide, by decide, by decide +kernel⟩ (by decide)), List.forall_mem_cons.mpr ⟨cl_nopa (cl_virtual (y := y_Dr_pointX) (ci := 0) rfl rfl ⟨_, _, rfl⟩ (by decide +kernel) h_Dr_pointX wm_1986 wm_8 wm_1983 wm_1984 wm_1985 ⟨by decide, by decide, by decide +kernel⟩ (by decide)), List.forall_mem_cons.mpr ⟨cl_static (y := y_jMath_floorDiv1) c_jMath_floorDiv1_v154 wm_1617 wm_10 wm_1987 wm_1616 ⟨by decide, by decide, by decide +kernel⟩ (by decide), List.forall_mem_cons.mpr ⟨cl_nopa (cl_virtual (y := y_Dr_pointY) (ci := 0) rfl rfl ⟨_, _, rfl⟩ (by decide +kernel) h_Dr_pointY wm_1991 wm_8 wm_1988 wm_1989 wm_1990 ⟨by decide, by decide, by decide +kernel⟩ (by decide)), List.forall_mem_cons.mpr ⟨cl_nopa (cl_virtual (y := y_Dr_pointY) (ci := 0) rfl rfl ⟨_, _, rfl⟩ (by decide +kernel) h_Dr_pointY wm_1991 wm_8 wm_1988 wm_1989 wm_1990 ⟨by decide, by decide, by decide +kernel⟩ (by decide)), List.forall_mem_cons.mpr ⟨cl_static (y := y_jMath_floorDiv1) c_jMath_floorDiv1_v154 wm_1617 wm_10 wm_1987 wm_1616 ⟨by decide, by decide, by decide +kernel⟩ (by decide), List.forall_mem_nil _⟩⟩⟩⟩⟩⟩⟩, List.forall_mem_nil _, List.forall_mem_nil _, GG_pl⟩ (by decide +kernel)
def n_Pn_joinParts_an : List an_T := [(2, [(0, (2, 0, 0, [7])), (1, (2, 0, 0, [2])), (2, (0, 1, 24, []))], [], (0, 0), [(0, 0, 99998), (1, 2, 24), (0, 0, 100000), (0, 0, 0), (0, 0, 0)], [], [], [], 0, [], []), (12, [(0, (2, 0, 0, [7])), (1, (2, 0, 0, [2])), (2, (0, 1, 23, [])), (3, (0, 0, 24, []))], [], (0, 0), [(0, 0, 99998), (1, 2, 24), (0, 0, 99988), (1, 3, 24), (0, 0, 100000)], [], [], [], 0, [], [])]
def t_Pn_joinParts_ct : ct_L := [(1, 107, e_Ne_insertLast), (121, 104, e_Ne_join_at_Nq_gx), (271, 111, e_Ne_traceFaces_at_Nq)]
set_option maxRecDepth 100000 in
theorem c_Pn_joinParts {l : Launch} {D : va_G} {kA : Nat → ClassId} (h_Ne_insertLast : ct_ok PRD l D kA GG y_Ne_insertLast z_Ne_insertLast e_Ne_insertLast) (h_Ne_join_at_Nq_gx : ct_ok PRD l D kA GG y_Ne_join_at_Nq_gx z_Ne_join_at_Nq_gx e_Ne_join_at_Nq_gx) (h_Ne_traceFaces_at_Nq : ct_ok PRD l D kA GG y_Ne_traceFaces_at_Nq z_Ne_traceFaces_at_Nq e_Ne_traceFaces_at_Nq) : ct_ok PRD l D kA GG y_Pn_joinParts z_Pn_joinParts e_Pn_joinParts := chk_all_ok (FT := [(12, 7, 0), (61, 2, 1), (86, 5, 5), (101, 2, 4)]) (PT := []) (CT := t_Pn_joinParts_ct) (KT := []) (NT := []) (AN := n_Pn_joinParts_an) (OT := []) 5 204 (List.forall_mem_nil _) (by decide +kernel) ⟨List.forall_mem_cons.mpr ⟨gf_Pn_12, List.forall_mem_cons.mpr ⟨gf_Pn_61, List.forall_mem_cons.mpr ⟨gf_Pn_86, List.forall_mem_cons.mpr ⟨gf_Pn_101, List.forall_mem_nil _⟩⟩⟩⟩, List.forall_mem_nil _, List.forall_mem_cons.mpr ⟨cl_virtual (y := y_Ne_insertLast) (ci := 5) rfl rfl ⟨_, _, rfl⟩ (by decide +kernel) h_Ne_insertLast wm_1522 wm_6 wm_1519 wm_1520 wm_1521 ⟨by decide, by decide, by decide +kernel⟩ (by decide), List.forall_mem_cons.mpr ⟨cl_virtual (y := y_Ne_join_at_Nq_gx) (ci := 5) rfl rfl ⟨_, _, rfl⟩ (by decide +kernel) h_Ne_join_at_Nq_gx wm_1065 wm_6 wm_1518 wm_1063 wm_1064 ⟨by decide, by decide, by decide +kernel⟩ (by decide), List.forall_mem_cons.mpr ⟨cl_virtual (y := y_Ne_traceFaces_at_Nq) (ci := 5) rfl rfl ⟨_, _, rfl⟩ (by decide +kernel) h_Ne_traceFaces_at_Nq wm_1150 wm_6 wm_1531 wm_1148 wm_1149 ⟨by decide, by decide, by decide +kernel⟩ (by decide), List.forall_mem_nil _⟩⟩⟩, List.forall_mem_nil _, List.forall_mem_nil _, GG_pl⟩ (by decide +kernel)
set_option maxHeartbeats 4000000 in
theorem vc_Mo_ofNode_0_r0 (x2 : Int) (styleOne_0 : Int) (k2 : (-1) ≤ x2 ∧ x2 ≤ 47) (g0 : x2 = styleOne_0) (f1 : (-1) * styleOne_0 + 0 ≤ 0) (f2 : 1 * styleOne_0 + 0 ≤ 23) (kz_0_165 : (-1) ≤ styleOne_0 ∧ styleOne_0 ≤ 47) : 0 ≤ x2 ∧ x2 ≤ 23 := by
  first | assumption | omega | grind
def o_Mo_ofNode_0 : or_T := (4, 3, [(0, (2, 0, 0, [165])), (2, (0, -1, 47, []))], [(9, [2, 0], [165]), (20, [0], [30, 0, -1, 1, 165]), (20, [0], [30, 23, 1, 1, 165])], [(2, (0, 0, 23, []))], [], [], [], [])
theorem oo_Mo_ofNode_0 {kA : Nat → ClassId} : or_ok PRD kA GG o_Mo_ofNode_0 := by
  refine or_mk fun A ta ws vs hD hth hl => ?_
  intro t0 r0 t2 k2 f0 f1 f2
  replace f0 := shm_213 f0
  have g0 : v_iv (n_v vs 2) = w_fi ws (n_v vs 0) 165 := congrArg v_iv f0
  have kz_0_165 := fdq_35 hD hth r0
  have hrf0 : 0 ≤ v_iv (n_v vs 2) ∧ v_iv (n_v vs 2) ≤ 23 := vc_Mo_ofNode_0_r0 (v_iv (n_v vs 2)) (w_fi ws (n_v vs 0) 165) k2 g0 (shm_214 f1) (shm_215 f2) kz_0_165
  have rf2 : tv_ok ta (0, 0, 23, []) (n_v vs 2) := tv_in t2 (by omega) (by omega)
  refine ⟨List.forall_mem_cons.mpr ⟨rf2, (fun _ h => (by cases h))⟩, [], trivial, ?_, (fun _ h => (by cases h))⟩
  rw [List.append_nil]
  exact (fun _ h => (by cases h))
def n_Mo_ofNode_an : List an_T := [(13, [(0, (2, 0, 0, [165])), (1, (0, 0, 9, [])), (2, (0, 0, 23, [])), (3, (0, 0, 48, [])), (4, (0, 0, 48, [])), (5, (0, 0, 48, []))], [], (0, 0), [(0, 0, 99987), (1, 5, 48), (0, 0, 100000)], [(3, 5, (Int.negSucc 999999999999), 0), (4, 5, (Int.negSucc 999999999999), 0)], [], [], 0, [], [])]
def t_Mo_ofNode_ct : ct_L := [(1, 394, e_Mo_tail), (1, 398, e_Mo_head), (1, 401, e_Mo_edges), (1, 723, e_Mo_size), (1, 725, e_Mo_groupOf), (1, 1023, e_Mo_px), (1, 1029, e_Mo_py)]
set_option maxRecDepth 100000 in
theorem c_Mo_ofNode {l : Launch} {D : va_G} {kA : Nat → ClassId} (h_Mo_edges : ct_ok PRD l D kA GG y_Mo_edges z_Mo_edges e_Mo_edges) (h_Mo_groupOf : ct_ok PRD l D kA GG y_Mo_groupOf z_Mo_groupOf e_Mo_groupOf) (h_Mo_head : ct_ok PRD l D kA GG y_Mo_head z_Mo_head e_Mo_head) (h_Mo_px : ct_ok PRD l D kA GG y_Mo_px z_Mo_px e_Mo_px) (h_Mo_py : ct_ok PRD l D kA GG y_Mo_py z_Mo_py e_Mo_py) (h_Mo_size : ct_ok PRD l D kA GG y_Mo_size z_Mo_size e_Mo_size) (h_Mo_tail : ct_ok PRD l D kA GG y_Mo_tail z_Mo_tail e_Mo_tail) : ct_ok PRD l D kA GG y_Mo_ofNode z_Mo_ofNode e_Mo_ofNode := chk_all_ok (FT := [(38, 13, 19), (120, 13, 61), (354, 13, 166), (357, 13, 167), (1020, 13, 139), (1181, 13, 165)]) (PT := []) (CT := t_Mo_ofNode_ct) (KT := [(1, 546, .int (1000000), (0, 1000000, 1000000, [])), (2, 1007, .long (-1), (1, -1, -1, []))]) (NT := []) (AN := n_Mo_ofNode_an) (OT := [o_Mo_ofNode_0]) 3 572 (List.forall_mem_cons.mpr ⟨oo_Mo_ofNode_0, List.forall_mem_nil _⟩) (by decide +kernel) ⟨List.forall_mem_cons.mpr ⟨gf_Mo_38, List.forall_mem_cons.mpr ⟨gf_Mo_120, List.forall_mem_cons.mpr ⟨gf_Mo_354, List.forall_mem_cons.mpr ⟨gf_Mo_357, List.forall_mem_cons.mpr ⟨gf_Mo_1020, List.forall_mem_cons.mpr ⟨gf_Mo_1181, List.forall_mem_nil _⟩⟩⟩⟩⟩⟩, List.forall_mem_nil _, List.forall_mem_cons.mpr ⟨cl_virtual (y := y_Mo_tail) (ci := 13) rfl rfl ⟨_, _, rfl⟩ (by decide +kernel) h_Mo_tail wm_3045 wm_9 wm_3042 wm_3044 wv_13_8 ⟨by decide, by decide, by decide +kernel⟩ (by decide), List.forall_mem_cons.mpr ⟨cl_virtual (y := y_Mo_head) (ci := 13) rfl rfl ⟨_, _, rfl⟩ (by decide +kernel) h_Mo_head wm_3049 wm_9 wm_3046 wm_3048 wv_13_9 ⟨by decide, by decide, by decide +kernel⟩ (by decide), List.forall_mem_cons.mpr ⟨cl_virtual (y := y_Mo_edges) (ci := 13) rfl rfl ⟨_, _, rfl⟩ (by decide +kernel) h_Mo_edges wm_3037 wm_9 wm_3034 wm_3036 wv_13_6 ⟨by decide, by decide, by decide +kernel⟩ (by decide), List.forall_mem_cons.mpr ⟨cl_virtual (y := y_Mo_size) (ci := 13) rfl rfl ⟨_, _, rfl⟩ (by decide +kernel) h_Mo_size wm_3307 wm_9 wm_3304 wm_3306 wv_17_0 ⟨by decide, by decide, by decide +kernel⟩ (by decide), List.forall_mem_cons.mpr ⟨cl_virtual (y := y_Mo_groupOf) (ci := 13) rfl rfl ⟨_, _, rfl⟩ (by decide +kernel) h_Mo_groupOf wm_3311 wm_9 wm_3308 wm_3310 wv_17_1 ⟨by decide, by decide, by decide +kernel⟩ (by decide), List.forall_mem_cons.mpr ⟨cl_virtual (y := y_Mo_px) (ci := 13) rfl rfl ⟨_, _, rfl⟩ (by decide +kernel) h_Mo_px wm_3675 wm_9 wm_3672 wm_3674 wv_21_14 ⟨by decide, by decide, by decide +kernel⟩ (by decide), List.forall_mem_cons.mpr ⟨cl_virtual (y := y_Mo_py) (ci := 13) rfl rfl ⟨_, _, rfl⟩ (by decide +kernel) h_Mo_py wm_3679 wm_9 wm_3676 wm_3678 wv_21_15 ⟨by decide, by decide, by decide +kernel⟩ (by decide), List.forall_mem_nil _⟩⟩⟩⟩⟩⟩⟩, List.forall_mem_cons.mpr ⟨kx_Mo_1_546, List.forall_mem_cons.mpr ⟨⟨kt_mk2 wm_3625, fun _ => Or.inr (Or.inl ⟨rfl, _, rfl, by decide, by decide⟩)⟩, List.forall_mem_nil _⟩⟩, List.forall_mem_nil _, GG_pl⟩ (by decide +kernel)
def n_Mo_told_an : List an_T := []
def t_Mo_told_ct : ct_L := [(0, 387, e_Mo_in), (0, 521, e_Mo_isPlace), (1, 401, e_Mo_edges), (1, 475, e_Mo_nodes), (1, 509, e_Mo_groups), (1, 527, e_Mo_take)]
