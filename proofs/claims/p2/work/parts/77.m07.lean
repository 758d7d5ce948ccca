def n_Mo_chordCrossings_an : List an_T := [(4, [(0, (2, 0, 0, [150])), (1, (0, 0, 24, [])), (2, (0, 0, 0, [])), (3, (0, 0, 24, []))], [], (0, 0), [(0, 0, 99996), (1, 3, 24), (0, 0, 100000), (0, 0, 0), (0, 0, 0)], [], [], [], 0, [], []), (29, [(0, (2, 0, 0, [150])), (1, (0, 0, 24, [])), (2, (0, -2147483648, 2147483647, [])), (3, (0, 0, 48, []))], [], (0, 0), [(0, 0, 99971), (1, 3, 48), (0, 0, 100000), (0, 0, 0), (0, 0, 0)], [], [], [], 0, [], []), (90, [(0, (2, 0, 0, [150])), (1, (0, 0, 24, [])), (2, (0, -2147483648, 2147483647, [])), (3, (0, 0, 47, [])), (4, (0, -1, 25, [])), (5, (0, -1, 25, [])), (6, (0, 0, 47, []))], [], (0, 0), [(0, 0, 99971), (1, 3, 48), (0, 0, 99910), (1, 6, 47), (0, 0, 100000)], [], [], [], 0, [], [])]
def t_Mo_chordCrossings_ct : ct_L := [(0, 547, e_Mo_min), (0, 855, e_Mo_max), (1, 394, e_Mo_tail), (1, 398, e_Mo_head), (1, 401, e_Mo_edges)]
set_option maxRecDepth 100000 in
theorem c_Mo_chordCrossings {l : Launch} {D : va_G} {kA : Nat → ClassId} (h_Mo_edges : ct_ok l D kA GG y_Mo_edges z_Mo_edges e_Mo_edges) (h_Mo_head : ct_ok l D kA GG y_Mo_head z_Mo_head e_Mo_head) (h_Mo_max : ct_ok l D kA GG y_Mo_max z_Mo_max e_Mo_max) (h_Mo_min : ct_ok l D kA GG y_Mo_min z_Mo_min e_Mo_min) (h_Mo_tail : ct_ok l D kA GG y_Mo_tail z_Mo_tail e_Mo_tail) : ct_ok l D kA GG y_Mo_chordCrossings z_Mo_chordCrossings e_Mo_chordCrossings := chk_all_ok (FT := [(213, 13, 96), (293, 13, 128)]) (PT := []) (CT := t_Mo_chordCrossings_ct) (KT := []) (NT := []) (AN := n_Mo_chordCrossings_an) (OT := []) 5 868 (List.forall_mem_nil _) (by decide +kernel) ⟨List.forall_mem_cons.mpr ⟨gf_Mo_213, List.forall_mem_cons.mpr ⟨gf_Mo_293, List.forall_mem_nil _⟩⟩, List.forall_mem_nil _, List.forall_mem_cons.mpr ⟨cl_static (y := y_Mo_min) h_Mo_min wm_3174 wm_9 wm_3172 wm_3173 ⟨by decide, by decide, by decide +kernel⟩ (by decide), List.forall_mem_cons.mpr ⟨cl_static (y := y_Mo_max) h_Mo_max wm_3430 wm_9 wm_3428 wm_3429 ⟨by decide, by decide, by decide +kernel⟩ (by decide), List.forall_mem_cons.mpr ⟨cl_virtual (y := y_Mo_tail) (ci := 13) rfl rfl ⟨_, _, rfl⟩ (by decide +kernel) h_Mo_tail wm_3045 wm_9 wm_3042 wm_3044 wv_13_8 ⟨by decide, by decide, by decide +kernel⟩ (by decide), List.forall_mem_cons.mpr ⟨cl_virtual (y := y_Mo_head) (ci := 13) rfl rfl ⟨_, _, rfl⟩ (by decide +kernel) h_Mo_head wm_3049 wm_9 wm_3046 wm_3048 wv_13_9 ⟨by decide, by decide, by decide +kernel⟩ (by decide), List.forall_mem_cons.mpr ⟨cl_virtual (y := y_Mo_edges) (ci := 13) rfl rfl ⟨_, _, rfl⟩ (by decide +kernel) h_Mo_edges wm_3037 wm_9 wm_3034 wm_3036 wv_13_6 ⟨by decide, by decide, by decide +kernel⟩ (by decide), List.forall_mem_nil _⟩⟩⟩⟩⟩, List.forall_mem_nil _, List.forall_mem_nil _⟩ (by decide +kernel)
def n_Mo_farFrom_an : List an_T := [(2, [(0, (2, 0, 0, [150])), (1, (0, 0, 23, [])), (2, (0, 0, 24, []))], [], (0, 0), [(0, 0, 99998), (1, 2, 24), (0, 0, 100000), (0, 0, 0), (0, 0, 0)], [], [], [], 0, [], []), (36, [(0, (2, 0, 0, [150])), (1, (0, 0, 23, [])), (2, (0, 0, 24, []))], [], (0, 0), [(0, 0, 99964), (1, 2, 24), (0, 0, 100000), (0, 0, 0), (0, 0, 0)], [], [], [], 0, [], []), (46, [(0, (2, 0, 0, [150])), (1, (0, 0, 23, [])), (2, (0, 0, 23, [])), (3, (0, 0, 48, []))], [], (0, 0), [(0, 0, 99964), (1, 2, 24), (0, 0, 99954), (1, 3, 48), (0, 0, 100000)], [], [], [], 0, [], []), (134, [(0, (2, 0, 0, [150])), (1, (0, 0, 23, [])), (2, (0, 0, 24, []))], [], (0, 0), [(0, 0, 99866), (1, 2, 24), (0, 0, 100000), (0, 0, 0), (0, 0, 0)], [], [], [], 0, [], [])]
def t_Mo_farFrom_ct : ct_L := [(0, 547, e_Mo_min), (1, 394, e_Mo_tail), (1, 398, e_Mo_head), (1, 401, e_Mo_edges), (1, 475, e_Mo_nodes)]
set_option maxRecDepth 100000 in
theorem c_Mo_farFrom {l : Launch} {D : va_G} {kA : Nat → ClassId} (h_Mo_edges : ct_ok l D kA GG y_Mo_edges z_Mo_edges e_Mo_edges) (h_Mo_head : ct_ok l D kA GG y_Mo_head z_Mo_head e_Mo_head) (h_Mo_min : ct_ok l D kA GG y_Mo_min z_Mo_min e_Mo_min) (h_Mo_nodes : ct_ok l D kA GG y_Mo_nodes z_Mo_nodes e_Mo_nodes) (h_Mo_tail : ct_ok l D kA GG y_Mo_tail z_Mo_tail e_Mo_tail) : ct_ok l D kA GG y_Mo_farFrom z_Mo_farFrom e_Mo_farFrom := chk_all_ok (FT := [(38, 13, 19)]) (PT := []) (CT := t_Mo_farFrom_ct) (KT := [(1, 546, .int (1000000), (0, 1000000, 1000000, []))]) (NT := []) (AN := n_Mo_farFrom_an) (OT := []) 5 484 (List.forall_mem_nil _) (by decide +kernel) ⟨List.forall_mem_cons.mpr ⟨gf_Mo_38, List.forall_mem_nil _⟩, List.forall_mem_nil _, List.forall_mem_cons.mpr ⟨cl_static (y := y_Mo_min) h_Mo_min wm_3174 wm_9 wm_3172 wm_3173 ⟨by decide, by decide, by decide +kernel⟩ (by decide), List.forall_mem_cons.mpr ⟨cl_virtual (y := y_Mo_tail) (ci := 13) rfl rfl ⟨_, _, rfl⟩ (by decide +kernel) h_Mo_tail wm_3045 wm_9 wm_3042 wm_3044 wv_13_8 ⟨by decide, by decide, by decide +kernel⟩ (by decide), List.forall_mem_cons.mpr ⟨cl_virtual (y := y_Mo_head) (ci := 13) rfl rfl ⟨_, _, rfl⟩ (by decide +kernel) h_Mo_head wm_3049 wm_9 wm_3046 wm_3048 wv_13_9 ⟨by decide, by decide, by decide +kernel⟩ (by decide), List.forall_mem_cons.mpr ⟨cl_virtual (y := y_Mo_edges) (ci := 13) rfl rfl ⟨_, _, rfl⟩ (by decide +kernel) h_Mo_edges wm_3037 wm_9 wm_3034 wm_3036 wv_13_6 ⟨by decide, by decide, by decide +kernel⟩ (by decide), List.forall_mem_cons.mpr ⟨cl_virtual (y := y_Mo_nodes) (ci := 13) rfl rfl ⟨_, _, rfl⟩ (by decide +kernel) h_Mo_nodes wm_3025 wm_9 wm_3022 wm_3024 wv_13_3 ⟨by decide, by decide, by decide +kernel⟩ (by decide), List.forall_mem_nil _⟩⟩⟩⟩⟩, List.forall_mem_cons.mpr ⟨kx_Mo_1_546, List.forall_mem_nil _⟩, List.forall_mem_nil _⟩ (by decide +kernel)
def n_Mo_nearer_an : List an_T := [(8, [(0, (2, 0, 0, [150])), (1, (0, -1, 23, [])), (2, (0, 0, 23, [])), (3, (0, 0, 24, [])), (4, (0, -1000000, 2147483647, [])), (5, (0, 0, 24, []))], [], (0, 0), [(0, 0, 99992), (1, 5, 24), (0, 0, 100000), (0, 0, 0), (0, 0, 0)], [], [], [], 0, [], []), (30, [(0, (2, 0, 0, [150])), (1, (0, -1, 23, [])), (2, (0, 0, 23, [])), (3, (0, 0, 24, [])), (4, (0, -1000000, 2147483647, [])), (5, (0, 0, 23, [])), (6, (0, -1000000, 2147483647, [])), (7, (0, -2147483648, 1000000, [])), (8, (0, 0, 24, []))], [], (0, 0), [(0, 0, 99992), (1, 5, 24), (0, 0, 99970), (1, 8, 24), (0, 0, 100000)], [], [], [], 0, [], []), (174, [(0, (2, 0, 0, [150])), (1, (0, -1, 23, [])), (2, (0, 0, 23, [])), (3, (0, 0, 24, [])), (4, (0, -1000000, 2147483647, [])), (5, (0, 0, 24, []))], [], (0, 0), [(0, 0, 99826), (1, 5, 24), (0, 0, 100000), (0, 0, 0), (0, 0, 0)], [], [], [], 0, [], [])]
def t_Mo_nearer_ct : ct_L := [(0, 547, e_Mo_min), (0, 855, e_Mo_max), (1, 475, e_Mo_nodes), (1, 954, e_Mo_isUnder), (1, 957, e_Mo_isAhead)]
set_option maxRecDepth 100000 in
theorem c_Mo_nearer {l : Launch} {D : va_G} {kA : Nat → ClassId} (h_Mo_isAhead : ct_ok l D kA GG y_Mo_isAhead z_Mo_isAhead e_Mo_isAhead) (h_Mo_isUnder : ct_ok l D kA GG y_Mo_isUnder z_Mo_isUnder e_Mo_isUnder) (h_Mo_max : ct_ok l D kA GG y_Mo_max z_Mo_max e_Mo_max) (h_Mo_min : ct_ok l D kA GG y_Mo_min z_Mo_min e_Mo_min) (h_Mo_nodes : ct_ok l D kA GG y_Mo_nodes z_Mo_nodes e_Mo_nodes) : ct_ok l D kA GG y_Mo_nearer z_Mo_nearer e_Mo_nearer := chk_all_ok (FT := [(29, 13, 16), (159, 13, 74), (293, 13, 128)]) (PT := []) (CT := t_Mo_nearer_ct) (KT := [(1, 546, .int (1000000), (0, 1000000, 1000000, [])), (1, 776, .int (Int32.ofInt (-1000000)), (0, -1000000, -1000000, []))]) (NT := []) (AN := n_Mo_nearer_an) (OT := []) 5 556 (List.forall_mem_nil _) (by decide +kernel) ⟨List.forall_mem_cons.mpr ⟨gf_Mo_29, List.forall_mem_cons.mpr ⟨gf_Mo_159, List.forall_mem_cons.mpr ⟨gf_Mo_293, List.forall_mem_nil _⟩⟩⟩, List.forall_mem_nil _, List.forall_mem_cons.mpr ⟨cl_static (y := y_Mo_min) h_Mo_min wm_3174 wm_9 wm_3172 wm_3173 ⟨by decide, by decide, by decide +kernel⟩ (by decide), List.forall_mem_cons.mpr ⟨cl_static (y := y_Mo_max) h_Mo_max wm_3430 wm_9 wm_3428 wm_3429 ⟨by decide, by decide, by decide +kernel⟩ (by decide), List.forall_mem_cons.mpr ⟨cl_virtual (y := y_Mo_nodes) (ci := 13) rfl rfl ⟨_, _, rfl⟩ (by decide +kernel) h_Mo_nodes wm_3025 wm_9 wm_3022 wm_3024 wv_13_3 ⟨by decide, by decide, by decide +kernel⟩ (by decide), List.forall_mem_cons.mpr ⟨cl_virtual (y := y_Mo_isUnder) (ci := 13) rfl rfl ⟨_, _, rfl⟩ (by decide +kernel) h_Mo_isUnder wm_3576 wm_9 wm_3573 wm_3575 wv_20_13 ⟨by decide, by decide, by decide +kernel⟩ (by decide), List.forall_mem_cons.mpr ⟨cl_virtual (y := y_Mo_isAhead) (ci := 13) rfl rfl ⟨_, _, rfl⟩ (by decide +kernel) h_Mo_isAhead wm_3580 wm_9 wm_3577 wm_3579 wv_20_14 ⟨by decide, by decide, by decide +kernel⟩ (by decide), List.forall_mem_nil _⟩⟩⟩⟩⟩, List.forall_mem_cons.mpr ⟨kx_Mo_1_546, List.forall_mem_cons.mpr ⟨kx_Mo_1_776, List.forall_mem_nil _⟩⟩, List.forall_mem_nil _⟩ (by decide +kernel)
def n_Mo_reaching_an : List an_T := [(7, [(0, (2, 0, 0, [150])), (1, (0, 0, 1, [])), (2, (0, 0, 24, [])), (3, (0, 0, 576, []))], [], (0, 0), [(0, 0, 99993), (1, 3, 576), (0, 0, 100000), (0, 0, 0), (0, 0, 0), (0, 0, 0), (0, 0, 0)], [], [], [], 0, [], []), (29, [(0, (2, 0, 0, [150])), (1, (0, 0, 1, [])), (2, (0, 0, 24, [])), (3, (0, 0, 24, []))], [], (0, 0), [(0, 0, 99971), (1, 3, 24), (0, 0, 100000), (0, 0, 0), (0, 0, 0), (0, 0, 0), (0, 0, 0)], [], [], [], 0, [], []), (54, [(0, (2, 0, 0, [150])), (1, (0, 0, 1, [])), (2, (0, 0, 24, [])), (3, (0, 0, 48, []))], [], (0, 0), [(0, 0, 99946), (1, 3, 48), (0, 0, 100000), (0, 0, 0), (0, 0, 0), (0, 0, 0), (0, 0, 0)], [], [], [], 0, [], []), (122, [(0, (2, 0, 0, [150])), (1, (0, 0, 1, [])), (2, (0, 0, 24, [])), (3, (0, 0, 24, []))], [], (0, 0), [(0, 0, 99878), (1, 3, 24), (0, 0, 100000), (0, 0, 0), (0, 0, 0), (0, 0, 0), (0, 0, 0)], [], [], [], 0, [], []), (130, [(0, (2, 0, 0, [150])), (1, (0, 0, 1, [])), (2, (0, 1, 24, [])), (3, (0, 0, 23, [])), (4, (0, 0, 24, []))], [], (0, 0), [(0, 0, 99878), (1, 3, 24), (0, 0, 99870), (1, 4, 24), (0, 0, 100000), (0, 0, 0), (0, 0, 0)], [], [], [], 0, [], []), (139, [(0, (2, 0, 0, [150])), (1, (0, 0, 1, [])), (2, (0, 1, 24, [])), (3, (0, 0, 23, [])), (4, (0, 0, 23, [])), (5, (0, 0, 24, []))], [], (0, 0), [(0, 0, 99878), (1, 3, 24), (0, 0, 99870), (1, 4, 24), (0, 0, 99861), (1, 5, 24), (0, 0, 100000)], [], [], [], 0, [], [])]
def t_Mo_reaching_ct : ct_L := [(1, 394, e_Mo_tail), (1, 398, e_Mo_head), (1, 401, e_Mo_edges), (1, 475, e_Mo_nodes), (1, 553, e_Mo_one)]
set_option maxRecDepth 100000 in
theorem c_Mo_reaching {l : Launch} {D : va_G} {kA : Nat → ClassId} (h_Mo_edges : ct_ok l D kA GG y_Mo_edges z_Mo_edges e_Mo_edges) (h_Mo_head : ct_ok l D kA GG y_Mo_head z_Mo_head e_Mo_head) (h_Mo_nodes : ct_ok l D kA GG y_Mo_nodes z_Mo_nodes e_Mo_nodes) (h_Mo_one : ct_ok l D kA GG y_Mo_one z_Mo_one e_Mo_one) (h_Mo_tail : ct_ok l D kA GG y_Mo_tail z_Mo_tail e_Mo_tail) : ct_ok l D kA GG y_Mo_reaching z_Mo_reaching e_Mo_reaching := chk_all_ok (FT := [(44, 13, 21)]) (PT := []) (CT := t_Mo_reaching_ct) (KT := []) (NT := []) (AN := n_Mo_reaching_an) (OT := []) 7 588 (List.forall_mem_nil _) (by decide +kernel) ⟨List.forall_mem_cons.mpr ⟨gf_Mo_44, List.forall_mem_nil _⟩, List.forall_mem_nil _, List.forall_mem_cons.mpr ⟨cl_virtual (y := y_Mo_tail) (ci := 13) rfl rfl ⟨_, _, rfl⟩ (by decide +kernel) h_Mo_tail wm_3045 wm_9 wm_3042 wm_3044 wv_13_8 ⟨by decide, by decide, by decide +kernel⟩ (by decide), List.forall_mem_cons.mpr ⟨cl_virtual (y := y_Mo_head) (ci := 13) rfl rfl ⟨_, _, rfl⟩ (by decide +kernel) h_Mo_head wm_3049 wm_9 wm_3046 wm_3048 wv_13_9 ⟨by decide, by decide, by decide +kernel⟩ (by decide), List.forall_mem_cons.mpr ⟨cl_virtual (y := y_Mo_edges) (ci := 13) rfl rfl ⟨_, _, rfl⟩ (by decide +kernel) h_Mo_edges wm_3037 wm_9 wm_3034 wm_3036 wv_13_6 ⟨by decide, by decide, by decide +kernel⟩ (by decide), List.forall_mem_cons.mpr ⟨cl_virtual (y := y_Mo_nodes) (ci := 13) rfl rfl ⟨_, _, rfl⟩ (by decide +kernel) h_Mo_nodes wm_3025 wm_9 wm_3022 wm_3024 wv_13_3 ⟨by decide, by decide, by decide +kernel⟩ (by decide), List.forall_mem_cons.mpr ⟨cl_virtual (y := y_Mo_one) (ci := 13) rfl rfl ⟨_, _, rfl⟩ (by decide +kernel) h_Mo_one wm_3299 wm_9 wm_3296 wm_3298 wv_16_15 ⟨by decide, by decide, by decide +kernel⟩ (by decide), List.forall_mem_nil _⟩⟩⟩⟩⟩, List.forall_mem_nil _, List.forall_mem_nil _⟩ (by decide +kernel)
def n_Dr_isStruck_an : List an_T := [(2, [(0, (2, 0, 0, [0])), (1, (0, 0, 47, [])), (2, (0, 0, 23, [])), (3, (0, 0, 25, []))], [], (0, 0), [(0, 0, 99998), (1, 3, 25), (0, 0, 100000)], [], [], [], 0, [], [])]
def t_Dr_isStruck_ct : ct_L := [(1, 206, e_Dr_isOnPiece)]
set_option maxRecDepth 100000 in
theorem c_Dr_isStruck {l : Launch} {D : va_G} {kA : Nat → ClassId} (h_Dr_isOnPiece : ct_ok l D kA GG y_Dr_isOnPiece z_Dr_isOnPiece e_Dr_isOnPiece) : ct_ok l D kA GG y_Dr_isStruck z_Dr_isStruck e_Dr_isStruck := chk_all_ok (FT := [(15, 0, 2), (19, 0, 3), (22, 0, 4)]) (PT := []) (CT := t_Dr_isStruck_ct) (KT := []) (NT := []) (AN := n_Dr_isStruck_an) (OT := []) 3 200 (List.forall_mem_nil _) (by decide +kernel) ⟨List.forall_mem_cons.mpr ⟨gf_Dr_15, List.forall_mem_cons.mpr ⟨gf_Dr_19, List.forall_mem_cons.mpr ⟨gf_Dr_22, List.forall_mem_nil _⟩⟩⟩, List.forall_mem_nil _, List.forall_mem_cons.mpr ⟨cl_virtual (y := y_Dr_isOnPiece) (ci := 0) rfl rfl ⟨_, _, rfl⟩ (by decide +kernel) h_Dr_isOnPiece wm_2034 wm_8 wm_2031 wm_2033 wv_9_15 ⟨by decide, by decide, by decide +kernel⟩ (by decide), List.forall_mem_nil _⟩, List.forall_mem_nil _, List.forall_mem_nil _⟩ (by decide +kernel)
def n_Dr_wholeArea_an : List an_T := []
def t_Dr_wholeArea_ct : ct_L := [(1, 214, e_Dr_measure)]
set_option maxRecDepth 100000 in
theorem c_Dr_wholeArea {l : Launch} {D : va_G} {kA : Nat → ClassId} (h_Dr_measure : ct_ok l D kA GG y_Dr_measure z_Dr_measure e_Dr_measure) : ct_ok l D kA GG y_Dr_wholeArea z_Dr_wholeArea e_Dr_wholeArea := chk_all_ok (FT := [(62, 0, 17), (65, 0, 18), (68, 0, 19), (71, 0, 20)]) (PT := []) (CT := t_Dr_wholeArea_ct) (KT := []) (NT := []) (AN := n_Dr_wholeArea_an) (OT := []) 0 200 (List.forall_mem_nil _) (by decide +kernel) ⟨List.forall_mem_cons.mpr ⟨gf_Dr_62, List.forall_mem_cons.mpr ⟨gf_Dr_65, List.forall_mem_cons.mpr ⟨gf_Dr_68, List.forall_mem_cons.mpr ⟨gf_Dr_71, List.forall_mem_nil _⟩⟩⟩⟩, List.forall_mem_nil _, List.forall_mem_cons.mpr ⟨cl_virtual (y := y_Dr_measure) (ci := 0) rfl rfl ⟨_, _, rfl⟩ (by decide +kernel) h_Dr_measure wm_2066 wm_8 wm_2063 wm_2064 wm_2065 ⟨by decide, by decide, by decide +kernel⟩ (by decide), List.forall_mem_nil _⟩, List.forall_mem_nil _, List.forall_mem_nil _⟩ (by decide +kernel)
def n_St_solve_an : List an_T := [(10, [(0, (2, 0, 0, [10])), (1, (0, 0, 1000000, []))], [], (0, 0), [(0, 0, 99990), (1, 1, 1000000), (0, 0, 100000)], [], [], [], 0, [], []), (50, [(0, (2, 0, 0, [10])), (1, (0, 0, 73, []))], [], (0, 0), [(0, 0, 99950), (1, 1, 73), (0, 0, 100000)], [], [], [], 0, [], [])]
def t_St_solve_ct : ct_L := [(1, 52, e_St_findRing), (1, 56, e_St_sendRound), (1, 60, e_St_raise), (18, 45, e_jArr_fill1_v43), (138, 45, e_jArr_fill1_v43)]
set_option maxRecDepth 100000 in
theorem c_St_solve {l : Launch} {D : va_G} {kA : Nat → ClassId} (h_St_findRing : ct_ok l D kA GG y_St_findRing z_St_findRing e_St_findRing) (h_St_raise : ct_ok l D kA GG y_St_raise z_St_raise e_St_raise) (h_St_sendRound : ct_ok l D kA GG y_St_sendRound z_St_sendRound e_St_sendRound) : ct_ok l D kA GG y_St_solve z_St_solve e_St_solve := chk_all_ok (FT := [(9, 10, 0), (31, 10, 6)]) (PT := []) (CT := t_St_solve_ct) (KT := [(0, 51, .int (1000000), (0, 1000000, 1000000, []))]) (NT := []) (AN := n_St_solve_an) (OT := []) 3 200 (List.forall_mem_nil _) (by decide +kernel) ⟨List.forall_mem_cons.mpr ⟨gf_St_9, List.forall_mem_cons.mpr ⟨gf_St_31, List.forall_mem_nil _⟩⟩, List.forall_mem_nil _, List.forall_mem_cons.mpr ⟨cl_virtual (y := y_St_findRing) (ci := 10) rfl rfl ⟨_, _, rfl⟩ (by decide +kernel) h_St_findRing wm_1348 wm_19 wm_1345 wm_1347 wv_4_12 ⟨by decide, by decide, by decide +kernel⟩ (by decide), List.forall_mem_cons.mpr ⟨cl_virtual (y := y_St_sendRound) (ci := 10) rfl rfl ⟨_, _, rfl⟩ (by decide +kernel) h_St_sendRound wm_1360 wm_19 wm_1357 wm_1359 wv_4_15 ⟨by decide, by decide, by decide +kernel⟩ (by decide), List.forall_mem_cons.mpr ⟨cl_virtual (y := y_St_raise) (ci := 10) rfl rfl ⟨_, _, rfl⟩ (by decide +kernel) h_St_raise wm_1352 wm_19 wm_1349 wm_1351 wv_4_13 ⟨by decide, by decide, by decide +kernel⟩ (by decide), List.forall_mem_cons.mpr ⟨cl_static (y := y_jArr_fill1) c_jArr_fill1_v43 wm_55 wm_4 wm_1343 wm_54 ⟨by decide, by decide, by decide +kernel⟩ (by decide), List.forall_mem_cons.mpr ⟨cl_static (y := y_jArr_fill1) c_jArr_fill1_v43 wm_55 wm_4 wm_1343 wm_54 ⟨by decide, by decide, by decide +kernel⟩ (by decide), List.forall_mem_nil _⟩⟩⟩⟩⟩, List.forall_mem_cons.mpr ⟨kx_St_0_51, List.forall_mem_nil _⟩, List.forall_mem_nil _⟩ (by decide +kernel)
def n_Mo_at2_an : List an_T := []
def t_Mo_at2_ct : ct_L := [(0, 387, e_Mo_in), (0, 521, e_Mo_isPlace), (1, 401, e_Mo_edges), (1, 475, e_Mo_nodes), (1, 527, e_Mo_take)]
set_option maxRecDepth 100000 in
theorem c_Mo_at2 {l : Launch} {D : va_G} {kA : Nat → ClassId} (h_Mo_edges : ct_ok l D kA GG y_Mo_edges z_Mo_edges e_Mo_edges) (h_Mo_in : ct_ok l D kA GG y_Mo_in z_Mo_in e_Mo_in) (h_Mo_isPlace : ct_ok l D kA GG y_Mo_isPlace z_Mo_isPlace e_Mo_isPlace) (h_Mo_nodes : ct_ok l D kA GG y_Mo_nodes z_Mo_nodes e_Mo_nodes) (h_Mo_take : ct_ok l D kA GG y_Mo_take z_Mo_take e_Mo_take) : ct_ok l D kA GG y_Mo_at2 z_Mo_at2 e_Mo_at2 := chk_all_ok (FT := [(120, 13, 61), (123, 13, 62), (126, 13, 63), (129, 13, 64), (132, 13, 65), (135, 13, 66)]) (PT := []) (CT := t_Mo_at2_ct) (KT := [(1, 775, .int (Int32.ofInt (-2147483648)), (0, -2147483648, -2147483648, []))]) (NT := []) (AN := n_Mo_at2_an) (OT := []) 0 584 (List.forall_mem_nil _) (by decide +kernel) ⟨List.forall_mem_cons.mpr ⟨gf_Mo_120, List.forall_mem_cons.mpr ⟨gf_Mo_123, List.forall_mem_cons.mpr ⟨gf_Mo_126, List.forall_mem_cons.mpr ⟨gf_Mo_129, List.forall_mem_cons.mpr ⟨gf_Mo_132, List.forall_mem_cons.mpr ⟨gf_Mo_135, List.forall_mem_nil _⟩⟩⟩⟩⟩⟩, List.forall_mem_nil _, List.forall_mem_cons.mpr ⟨cl_static (y := y_Mo_in) h_Mo_in wm_2971 wm_9 wm_2969 wm_2970 ⟨by decide, by decide, by decide +kernel⟩ (by decide), List.forall_mem_cons.mpr ⟨cl_static (y := y_Mo_isPlace) h_Mo_isPlace wm_2978 wm_9 wm_2976 wm_2977 ⟨by decide, by decide, by decide +kernel⟩ (by decide), List.forall_mem_cons.mpr ⟨cl_virtual (y := y_Mo_edges) (ci := 13) rfl rfl ⟨_, _, rfl⟩ (by decide +kernel) h_Mo_edges wm_3037 wm_9 wm_3034 wm_3036 wv_13_6 ⟨by decide, by decide, by decide +kernel⟩ (by decide), List.forall_mem_cons.mpr ⟨cl_virtual (y := y_Mo_nodes) (ci := 13) rfl rfl ⟨_, _, rfl⟩ (by decide +kernel) h_Mo_nodes wm_3025 wm_9 wm_3022 wm_3024 wv_13_3 ⟨by decide, by decide, by decide +kernel⟩ (by decide), List.forall_mem_cons.mpr ⟨cl_virtual (y := y_Mo_take) (ci := 13) rfl rfl ⟨_, _, rfl⟩ (by decide +kernel) h_Mo_take wm_3091 wm_9 wm_3088 wm_3090 wv_14_2 ⟨by decide, by decide, by decide +kernel⟩ (by decide), List.forall_mem_nil _⟩⟩⟩⟩⟩, List.forall_mem_cons.mpr ⟨kx_Mo_1_775, List.forall_mem_nil _⟩, List.forall_mem_nil _⟩ (by decide +kernel)
def o_Mo_isInCore_0 : or_T := (25, 6, [(0, (2, 0, 0, [150])), (5, (0, 1, 1, []))], [], [], [(0, 0, 51, [])], [(20, [6, 0, 5], [1, 22, 25, 0, 2])], [], [])
theorem oo_Mo_isInCore_0 {kA : Nat → ClassId} : or_ok kA GG o_Mo_isInCore_0 := by
  intro A ta ws vs hD hth hl hk hds hf
  have hl : vs.length = 6 := hl
  have hk : ∀ q ∈ ([(0, (2, 0, 0, [150])), (5, (0, 1, 1, []))] : List (Nat × tv_T)), tv_ok ta q.2 (n_v vs q.1) := hk
  obtain ⟨t0, hk⟩ := List.forall_mem_cons.mp hk
  have t0 : tv_ok ta (2, 0, 0, [150]) (n_v vs 0) := t0
  have r0 : ta (v_ad (n_v vs 0)) = some 150 := tv_rg t0
  obtain ⟨t5, hk⟩ := List.forall_mem_cons.mp hk
  have t5 : tv_ok ta (0, 1, 1, []) (n_v vs 5) := t5
  have k5 : 1 ≤ v_iv (n_v vs 5) ∧ v_iv (n_v vs 5) ≤ 1 := tv_rng t5
  have ra : ta (w_ar ws (n_v vs 0) 22) = some 162 := tv_rg (th_fd hD hth r0 (g := GG_150) rfl (k := 22) (t := (2, 0, 0, [162])) rfl rfl)
  have bs := sum_bd (ws := ws) (a := w_ar ws (n_v vs 0) 22) (lo := 0) (hi := 1) (n := 25) (fun j hj => th_el hD hth ra (kd := 2) (n := 25) (m := 25) (rs := []) (L := []) rfl (by decide) (by omega))
  obtain ⟨x, ex, hx⟩ := iv_ex (ta := ta) (lo := 0) (hi := 51) (z := 0 + 2 * w_sum ws (w_ar ws (n_v vs 0) 22) 25 + v_iv (n_v vs 5)) (by omega) (by omega) (by decide) (by decide)
  have ex2 : v_iv (Value.int x) = 0 + 2 * w_sum ws (w_ar ws (n_v vs 0) 22) 25 + v_iv (n_v vs 5) := ex
  have e_0 : n_v (vs ++ [Value.int x]) 0 = n_v vs 0 := n_v_old (by rw [hl]; decide)
  have e_5 : n_v (vs ++ [Value.int x]) 5 = n_v vs 5 := n_v_old (by rw [hl]; decide)
  have e_6 : n_v (vs ++ [Value.int x]) 6 = Value.int x := n_v_new hl
  have nf0 : fc_1 (20, [6, 0, 5], [1, 22, 25, 0, 2]) ws (vs ++ [Value.int x]) := by
    refine ⟨fun n hn => ?_, ?_⟩
    · have hn : n ∈ [6, 0, 5] := hn
      rw [List.length_append, hl]
      simp only [List.mem_cons, List.not_mem_nil, or_false] at hn
      show n < 6 + 1; omega
    · show v_iv (n_v (vs ++ [Value.int x]) 6) = 0 + 2 * w_sum ws (w_ar ws (n_v (vs ++ [Value.int x]) 0) 22) 25 + v_iv (n_v (vs ++ [Value.int x]) 5)
      rw [e_0]
      rw [e_5]
      rw [e_6]
      omega
  exact ⟨fun q hq => (by cases hq), [Value.int x], ag_one hx, List.forall_mem_cons.mpr ⟨⟨by decide, nf0⟩, (fun _ h => (by cases h))⟩, (fun _ h => (by cases h))⟩
def o_Mo_isInCore_1 : or_T := (34, 7, [(0, (2, 0, 0, [150])), (3, (0, 1, 1, [])), (4, (0, 0, 51, [])), (5, (0, 0, 0, []))], [(20, [4, 0, 3], [1, 22, 25, 0, 2])], [], [(0, 0, 51, [])], [(20, [7, 0, 5], [2, 22, 25, 0, 2])], [(7, 4, 0, 0)], [])
theorem oo_Mo_isInCore_1 {kA : Nat → ClassId} : or_ok kA GG o_Mo_isInCore_1 := by
  intro A ta ws vs hD hth hl hk hds hf
  have hl : vs.length = 7 := hl
  have hk : ∀ q ∈ ([(0, (2, 0, 0, [150])), (3, (0, 1, 1, [])), (4, (0, 0, 51, [])), (5, (0, 0, 0, []))] : List (Nat × tv_T)), tv_ok ta q.2 (n_v vs q.1) := hk
  obtain ⟨t0, hk⟩ := List.forall_mem_cons.mp hk
  have t0 : tv_ok ta (2, 0, 0, [150]) (n_v vs 0) := t0
  have r0 : ta (v_ad (n_v vs 0)) = some 150 := tv_rg t0
  obtain ⟨t3, hk⟩ := List.forall_mem_cons.mp hk
  have t3 : tv_ok ta (0, 1, 1, []) (n_v vs 3) := t3
  have k3 : 1 ≤ v_iv (n_v vs 3) ∧ v_iv (n_v vs 3) ≤ 1 := tv_rng t3
  obtain ⟨t4, hk⟩ := List.forall_mem_cons.mp hk
  have t4 : tv_ok ta (0, 0, 51, []) (n_v vs 4) := t4
  have k4 : 0 ≤ v_iv (n_v vs 4) ∧ v_iv (n_v vs 4) ≤ 51 := tv_rng t4
  obtain ⟨t5, hk⟩ := List.forall_mem_cons.mp hk
  have t5 : tv_ok ta (0, 0, 0, []) (n_v vs 5) := t5
  have k5 : 0 ≤ v_iv (n_v vs 5) ∧ v_iv (n_v vs 5) ≤ 0 := tv_rng t5
  have hf : fc_ok [(20, [4, 0, 3], [1, 22, 25, 0, 2])] ta ws vs := hf
  obtain ⟨f0, hf⟩ := fc_un (by decide) hf
  have f0 : v_iv (n_v vs 4) = 0 + 2 * w_sum ws (w_ar ws (n_v vs 0) 22) 25 + v_iv (n_v vs 3) := f0
  have key : 0 + 2 * w_sum ws (w_ar ws (n_v vs 0) 22) 25 + v_iv (n_v vs 5) + 1 ≤ v_iv (n_v vs 4) := by omega
  obtain ⟨x, ex, hx⟩ := iv_ex (ta := ta) (lo := 0) (hi := 51) (z := v_iv (n_v vs 4)) (by omega) (by omega) (by decide) (by decide)
  have ex2 : v_iv (Value.int x) = v_iv (n_v vs 4) := ex
  have e_0 : n_v (vs ++ [Value.int x]) 0 = n_v vs 0 := n_v_old (by rw [hl]; decide)
  have e_5 : n_v (vs ++ [Value.int x]) 5 = n_v vs 5 := n_v_old (by rw [hl]; decide)
  have e_7 : n_v (vs ++ [Value.int x]) 7 = Value.int x := n_v_new hl
  have nf0 : fc_1 (20, [7, 0, 5], [2, 22, 25, 0, 2]) ws (vs ++ [Value.int x]) := by
    refine ⟨fun n hn => ?_, ?_⟩
    · have hn : n ∈ [7, 0, 5] := hn
      rw [List.length_append, hl]
      simp only [List.mem_cons, List.not_mem_nil, or_false] at hn
      show n < 7 + 1; omega
    · show 0 + 2 * w_sum ws (w_ar ws (n_v (vs ++ [Value.int x]) 0) 22) 25 + v_iv (n_v (vs ++ [Value.int x]) 5) + 1 ≤ v_iv (n_v (vs ++ [Value.int x]) 7)
      rw [e_0]
      rw [e_5]
      rw [e_7]
      omega
  obtain ⟨x0, e0, _, _⟩ := tv_int t4 rfl
  have e1 : v_iv (n_v vs 4) = x0.toInt := by rw [e0]; rfl
  have ho : sy_ofs (vs ++ [Value.int x]) (7, 4, 0, 0) := by
    refine ⟨x, x0, by rw [List.getElem?_append_right (by rw [hl]; decide), hl]; rfl, ?_, ?_, ?_⟩
    · rw [List.getElem?_append_left (by rw [hl]; decide)]; exact n_v_some (by rw [hl]; decide) e0
    · show x0.toInt + 0 ≤ x.toInt; omega
    · show x.toInt ≤ x0.toInt + 0; omega
  exact ⟨fun q hq => (by cases hq), [Value.int x], ag_one hx, List.forall_mem_cons.mpr ⟨⟨by decide, nf0⟩, (fun _ h => (by cases h))⟩, List.forall_mem_cons.mpr ⟨ho, (fun _ h => (by cases h))⟩⟩
def o_Mo_isInCore_2 : or_T := (25, 7, [(0, (2, 0, 0, [150])), (3, (0, 0, 1, [])), (5, (0, 0, 51, []))], [(20, [5, 0, 3], [2, 22, 25, 0, 2])], [], [(0, 0, 51, [])], [(20, [7, 0, 3], [1, 22, 25, 0, 2])], [(7, 5, -1000000000000, -1)], [])
theorem oo_Mo_isInCore_2 {kA : Nat → ClassId} : or_ok kA GG o_Mo_isInCore_2 := by
  intro A ta ws vs hD hth hl hk hds hf
  have hl : vs.length = 7 := hl
  have hk : ∀ q ∈ ([(0, (2, 0, 0, [150])), (3, (0, 0, 1, [])), (5, (0, 0, 51, []))] : List (Nat × tv_T)), tv_ok ta q.2 (n_v vs q.1) := hk
  obtain ⟨t0, hk⟩ := List.forall_mem_cons.mp hk
  have t0 : tv_ok ta (2, 0, 0, [150]) (n_v vs 0) := t0
  have r0 : ta (v_ad (n_v vs 0)) = some 150 := tv_rg t0
  obtain ⟨t3, hk⟩ := List.forall_mem_cons.mp hk
  have t3 : tv_ok ta (0, 0, 1, []) (n_v vs 3) := t3
  have k3 : 0 ≤ v_iv (n_v vs 3) ∧ v_iv (n_v vs 3) ≤ 1 := tv_rng t3
  obtain ⟨t5, hk⟩ := List.forall_mem_cons.mp hk
  have t5 : tv_ok ta (0, 0, 51, []) (n_v vs 5) := t5
  have k5 : 0 ≤ v_iv (n_v vs 5) ∧ v_iv (n_v vs 5) ≤ 51 := tv_rng t5
  have hf : fc_ok [(20, [5, 0, 3], [2, 22, 25, 0, 2])] ta ws vs := hf
  obtain ⟨f0, hf⟩ := fc_un (by decide) hf
  have f0 : 0 + 2 * w_sum ws (w_ar ws (n_v vs 0) 22) 25 + v_iv (n_v vs 3) + 1 ≤ v_iv (n_v vs 5) := f0
  have ra : ta (w_ar ws (n_v vs 0) 22) = some 162 := tv_rg (th_fd hD hth r0 (g := GG_150) rfl (k := 22) (t := (2, 0, 0, [162])) rfl rfl)
  have bs := sum_bd (ws := ws) (a := w_ar ws (n_v vs 0) 22) (lo := 0) (hi := 1) (n := 25) (fun j hj => th_el hD hth ra (kd := 2) (n := 25) (m := 25) (rs := []) (L := []) rfl (by decide) (by omega))
  obtain ⟨x, ex, hx⟩ := iv_ex (ta := ta) (lo := 0) (hi := 51) (z := 0 + 2 * w_sum ws (w_ar ws (n_v vs 0) 22) 25 + v_iv (n_v vs 3)) (by omega) (by omega) (by decide) (by decide)
  have ex2 : v_iv (Value.int x) = 0 + 2 * w_sum ws (w_ar ws (n_v vs 0) 22) 25 + v_iv (n_v vs 3) := ex
  have e_0 : n_v (vs ++ [Value.int x]) 0 = n_v vs 0 := n_v_old (by rw [hl]; decide)
  have e_3 : n_v (vs ++ [Value.int x]) 3 = n_v vs 3 := n_v_old (by rw [hl]; decide)
  have e_7 : n_v (vs ++ [Value.int x]) 7 = Value.int x := n_v_new hl
  have nf0 : fc_1 (20, [7, 0, 3], [1, 22, 25, 0, 2]) ws (vs ++ [Value.int x]) := by
    refine ⟨fun n hn => ?_, ?_⟩
    · have hn : n ∈ [7, 0, 3] := hn
      rw [List.length_append, hl]
      simp only [List.mem_cons, List.not_mem_nil, or_false] at hn
      show n < 7 + 1; omega
    · show v_iv (n_v (vs ++ [Value.int x]) 7) = 0 + 2 * w_sum ws (w_ar ws (n_v (vs ++ [Value.int x]) 0) 22) 25 + v_iv (n_v (vs ++ [Value.int x]) 3)
      rw [e_0]
      rw [e_3]
      rw [e_7]
      omega
  obtain ⟨x0, e0, _, _⟩ := tv_int t5 rfl
  have e1 : v_iv (n_v vs 5) = x0.toInt := by rw [e0]; rfl
  have ho : sy_ofs (vs ++ [Value.int x]) (7, 5, -1000000000000, -1) := by
    refine ⟨x, x0, by rw [List.getElem?_append_right (by rw [hl]; decide), hl]; rfl, ?_, ?_, ?_⟩
    · rw [List.getElem?_append_left (by rw [hl]; decide)]; exact n_v_some (by rw [hl]; decide) e0
    · show x0.toInt + (-1000000000000) ≤ x.toInt; omega
    · show x.toInt ≤ x0.toInt + (-1); omega
  exact ⟨fun q hq => (by cases hq), [Value.int x], ag_one hx, List.forall_mem_cons.mpr ⟨⟨by decide, nf0⟩, (fun _ h => (by cases h))⟩, List.forall_mem_cons.mpr ⟨ho, (fun _ h => (by cases h))⟩⟩
def o_Mo_isInCore_3 : or_T := (62, 11, [(0, (2, 0, 0, [150])), (3, (0, 0, 1, [])), (4, (0, 0, 23, [])), (5, (0, 0, 51, [])), (7, (2, 0, 0, [162])), (8, (0, 1, 1, []))], [(10, [8, 7, 4], []), (9, [7, 0], [22]), (20, [5, 0, 3], [2, 22, 25, 0, 2])], [], [(0, 0, 51, [])], [(20, [11, 0, 3], [2, 22, 25, 0, 2]), (20, [0, 4], [5, 22, 1])], [(11, 5, 0, 0)], [])
theorem oo_Mo_isInCore_3 {kA : Nat → ClassId} : or_ok kA GG o_Mo_isInCore_3 := by
  intro A ta ws vs hD hth hl hk hds hf
  have hl : vs.length = 11 := hl
  have hk : ∀ q ∈ ([(0, (2, 0, 0, [150])), (3, (0, 0, 1, [])), (4, (0, 0, 23, [])), (5, (0, 0, 51, [])), (7, (2, 0, 0, [162])), (8, (0, 1, 1, []))] : List (Nat × tv_T)), tv_ok ta q.2 (n_v vs q.1) := hk
  obtain ⟨t0, hk⟩ := List.forall_mem_cons.mp hk
  have t0 : tv_ok ta (2, 0, 0, [150]) (n_v vs 0) := t0
  have r0 : ta (v_ad (n_v vs 0)) = some 150 := tv_rg t0
  obtain ⟨t3, hk⟩ := List.forall_mem_cons.mp hk
  have t3 : tv_ok ta (0, 0, 1, []) (n_v vs 3) := t3
  have k3 : 0 ≤ v_iv (n_v vs 3) ∧ v_iv (n_v vs 3) ≤ 1 := tv_rng t3
  obtain ⟨t4, hk⟩ := List.forall_mem_cons.mp hk
  have t4 : tv_ok ta (0, 0, 23, []) (n_v vs 4) := t4
  have k4 : 0 ≤ v_iv (n_v vs 4) ∧ v_iv (n_v vs 4) ≤ 23 := tv_rng t4
  obtain ⟨t5, hk⟩ := List.forall_mem_cons.mp hk
  have t5 : tv_ok ta (0, 0, 51, []) (n_v vs 5) := t5
  have k5 : 0 ≤ v_iv (n_v vs 5) ∧ v_iv (n_v vs 5) ≤ 51 := tv_rng t5
  obtain ⟨t7, hk⟩ := List.forall_mem_cons.mp hk
  have t7 : tv_ok ta (2, 0, 0, [162]) (n_v vs 7) := t7
  have r7 : ta (v_ad (n_v vs 7)) = some 162 := tv_rg t7
  obtain ⟨t8, hk⟩ := List.forall_mem_cons.mp hk
  have t8 : tv_ok ta (0, 1, 1, []) (n_v vs 8) := t8
  have k8 : 1 ≤ v_iv (n_v vs 8) ∧ v_iv (n_v vs 8) ≤ 1 := tv_rng t8
  have hf : fc_ok [(10, [8, 7, 4], []), (9, [7, 0], [22]), (20, [5, 0, 3], [2, 22, 25, 0, 2])] ta ws vs := hf
  obtain ⟨f0, hf⟩ := fc_un (by decide) hf
  have f0 : v_iv (n_v vs 8) = w_el ws (v_ad (n_v vs 7)) (v_iv (n_v vs 4)).toNat := f0
  obtain ⟨f1, hf⟩ := fc_un (by decide) hf
  have f1 : n_v vs 7 = w_fd ws (v_ad (n_v vs 0)) 22 := f1
  obtain ⟨f2, hf⟩ := fc_un (by decide) hf
  have f2 : 0 + 2 * w_sum ws (w_ar ws (n_v vs 0) 22) 25 + v_iv (n_v vs 3) + 1 ≤ v_iv (n_v vs 5) := f2
  have key : 0 + 2 * w_sum ws (w_ar ws (n_v vs 0) 22) 25 + v_iv (n_v vs 3) + 1 ≤ v_iv (n_v vs 5) := by omega
  obtain ⟨x, ex, hx⟩ := iv_ex (ta := ta) (lo := 0) (hi := 51) (z := v_iv (n_v vs 5)) (by omega) (by omega) (by decide) (by decide)
  have ex2 : v_iv (Value.int x) = v_iv (n_v vs 5) := ex
  have e_0 : n_v (vs ++ [Value.int x]) 0 = n_v vs 0 := n_v_old (by rw [hl]; decide)
  have e_3 : n_v (vs ++ [Value.int x]) 3 = n_v vs 3 := n_v_old (by rw [hl]; decide)
  have e_4 : n_v (vs ++ [Value.int x]) 4 = n_v vs 4 := n_v_old (by rw [hl]; decide)
  have e_11 : n_v (vs ++ [Value.int x]) 11 = Value.int x := n_v_new hl
  have nf0 : fc_1 (20, [11, 0, 3], [2, 22, 25, 0, 2]) ws (vs ++ [Value.int x]) := by
    refine ⟨fun n hn => ?_, ?_⟩
    · have hn : n ∈ [11, 0, 3] := hn
      rw [List.length_append, hl]
      simp only [List.mem_cons, List.not_mem_nil, or_false] at hn
      show n < 11 + 1; omega
    · show 0 + 2 * w_sum ws (w_ar ws (n_v (vs ++ [Value.int x]) 0) 22) 25 + v_iv (n_v (vs ++ [Value.int x]) 3) + 1 ≤ v_iv (n_v (vs ++ [Value.int x]) 11)
      rw [e_0]
      rw [e_3]
      rw [e_11]
      omega
  have nf1 : fc_1 (20, [0, 4], [5, 22, 1]) ws (vs ++ [Value.int x]) := by
    refine ⟨fun n hn => ?_, ?_⟩
    · have hn : n ∈ [0, 4] := hn
      rw [List.length_append, hl]
      simp only [List.mem_cons, List.not_mem_nil, or_false] at hn
      show n < 11 + 1; omega
    · show w_el ws (w_ar ws (n_v (vs ++ [Value.int x]) 0) 22) (v_iv (n_v (vs ++ [Value.int x]) 4)).toNat = 1
      rw [e_0]
      rw [e_4]
      show w_el ws (v_ad (w_fd ws (v_ad (n_v vs 0)) 22)) (v_iv (n_v vs 4)).toNat = 1
      rw [← f1, ← f0]; omega
  obtain ⟨x0, e0, _, _⟩ := tv_int t5 rfl
  have e1 : v_iv (n_v vs 5) = x0.toInt := by rw [e0]; rfl
  have ho : sy_ofs (vs ++ [Value.int x]) (11, 5, 0, 0) := by
    refine ⟨x, x0, by rw [List.getElem?_append_right (by rw [hl]; decide), hl]; rfl, ?_, ?_, ?_⟩
    · rw [List.getElem?_append_left (by rw [hl]; decide)]; exact n_v_some (by rw [hl]; decide) e0
    · show x0.toInt + 0 ≤ x.toInt; omega
    · show x.toInt ≤ x0.toInt + 0; omega
  exact ⟨fun q hq => (by cases hq), [Value.int x], ag_one hx, List.forall_mem_cons.mpr ⟨⟨by decide, nf0⟩, List.forall_mem_cons.mpr ⟨⟨by decide, nf1⟩, (fun _ h => (by cases h))⟩⟩, List.forall_mem_cons.mpr ⟨ho, (fun _ h => (by cases h))⟩⟩
def o_Mo_isInCore_4 : or_T := (34, 13, [(0, (2, 0, 0, [150])), (3, (0, 0, 1, [])), (4, (0, 0, 23, [])), (7, (0, 0, 51, [])), (9, (2, 0, 0, [162])), (10, (0, 0, 0, [])), (11, (0, 1, 1, []))], [(100, [9, 4, 10], []), (9, [9, 0], [22]), (20, [7, 0, 3], [2, 22, 25, 0, 2]), (20, [0, 4], [5, 22, 1])], [], [(0, 0, 51, [])], [(20, [13, 0, 11], [2, 22, 25, 0, 2])], [(13, 7, 0, 0)], [])
theorem oo_Mo_isInCore_4 {kA : Nat → ClassId} : or_ok kA GG o_Mo_isInCore_4 := by
  intro A ta ws vs hD hth hl hk hds hf
  have hl : vs.length = 13 := hl
  have hk : ∀ q ∈ ([(0, (2, 0, 0, [150])), (3, (0, 0, 1, [])), (4, (0, 0, 23, [])), (7, (0, 0, 51, [])), (9, (2, 0, 0, [162])), (10, (0, 0, 0, [])), (11, (0, 1, 1, []))] : List (Nat × tv_T)), tv_ok ta q.2 (n_v vs q.1) := hk
  obtain ⟨t0, hk⟩ := List.forall_mem_cons.mp hk
  have t0 : tv_ok ta (2, 0, 0, [150]) (n_v vs 0) := t0
  have r0 : ta (v_ad (n_v vs 0)) = some 150 := tv_rg t0
  obtain ⟨t3, hk⟩ := List.forall_mem_cons.mp hk
  have t3 : tv_ok ta (0, 0, 1, []) (n_v vs 3) := t3
  have k3 : 0 ≤ v_iv (n_v vs 3) ∧ v_iv (n_v vs 3) ≤ 1 := tv_rng t3
  obtain ⟨t4, hk⟩ := List.forall_mem_cons.mp hk
  have t4 : tv_ok ta (0, 0, 23, []) (n_v vs 4) := t4
  have k4 : 0 ≤ v_iv (n_v vs 4) ∧ v_iv (n_v vs 4) ≤ 23 := tv_rng t4
  obtain ⟨t7, hk⟩ := List.forall_mem_cons.mp hk
  have t7 : tv_ok ta (0, 0, 51, []) (n_v vs 7) := t7
  have k7 : 0 ≤ v_iv (n_v vs 7) ∧ v_iv (n_v vs 7) ≤ 51 := tv_rng t7
  obtain ⟨t9, hk⟩ := List.forall_mem_cons.mp hk
  have t9 : tv_ok ta (2, 0, 0, [162]) (n_v vs 9) := t9
  have r9 : ta (v_ad (n_v vs 9)) = some 162 := tv_rg t9
  obtain ⟨t10, hk⟩ := List.forall_mem_cons.mp hk
  have t10 : tv_ok ta (0, 0, 0, []) (n_v vs 10) := t10
  have k10 : 0 ≤ v_iv (n_v vs 10) ∧ v_iv (n_v vs 10) ≤ 0 := tv_rng t10
  obtain ⟨t11, hk⟩ := List.forall_mem_cons.mp hk
  have t11 : tv_ok ta (0, 1, 1, []) (n_v vs 11) := t11
  have k11 : 1 ≤ v_iv (n_v vs 11) ∧ v_iv (n_v vs 11) ≤ 1 := tv_rng t11
  have hf : fc_ok [(100, [9, 4, 10], []), (9, [9, 0], [22]), (20, [7, 0, 3], [2, 22, 25, 0, 2]), (20, [0, 4], [5, 22, 1])] ta ws vs := hf
  obtain ⟨ta1, w1, le1, ⟨_, s1⟩, hf⟩ := fc_us (by decide) hf
  have s1 : (∀ b j, w_el ws b j = if b = v_ad (n_v vs 9) ∧ j = (v_iv (n_v vs 4)).toNat then v_iv (n_v vs 10) else w_el w1 b j) ∧ ∀ b k, w_fd ws b k = w_fd w1 b k := s1
  obtain ⟨f1, hf⟩ := fc_un (by decide) hf
  have f1 : n_v vs 9 = w_fd w1 (v_ad (n_v vs 0)) 22 := f1
  obtain ⟨f2, hf⟩ := fc_un (by decide) hf
  have f2 : 0 + 2 * w_sum w1 (w_ar w1 (n_v vs 0) 22) 25 + v_iv (n_v vs 3) + 1 ≤ v_iv (n_v vs 7) := f2
  obtain ⟨f3, hf⟩ := fc_un (by decide) hf
  have f3 : w_el w1 (w_ar w1 (n_v vs 0) 22) (v_iv (n_v vs 4)).toNat = 1 := f3
  have a9 : v_ad (n_v vs 9) = w_ar ws (n_v vs 0) 22 := by rw [f1]; show _ = v_ad (w_fd ws _ _); rw [s1.2]
  rw [a9] at s1
  have c22 := r9; rw [a9] at c22
  have t3 : w_ar w1 (n_v vs 0) 22 = w_ar ws (n_v vs 0) 22 := by show v_ad (w_fd w1 _ _) = v_ad (w_fd ws _ _); rw [s1.2]
  rw [t3] at f3
  have g1 := sum_set s1.1 (n := 25) (by omega)
  have t2 : w_ar w1 (n_v vs 0) 22 = w_ar ws (n_v vs 0) 22 := by show v_ad (w_fd w1 _ _) = v_ad (w_fd ws _ _); rw [s1.2]
  rw [t2] at f2
  have key : 0 + 2 * w_sum ws (w_ar ws (n_v vs 0) 22) 25 + v_iv (n_v vs 11) + 1 ≤ v_iv (n_v vs 7) := by omega
  obtain ⟨x, ex, hx⟩ := iv_ex (ta := ta) (lo := 0) (hi := 51) (z := v_iv (n_v vs 7)) (by omega) (by omega) (by decide) (by decide)
  have ex2 : v_iv (Value.int x) = v_iv (n_v vs 7) := ex
  have e_0 : n_v (vs ++ [Value.int x]) 0 = n_v vs 0 := n_v_old (by rw [hl]; decide)
  have e_11 : n_v (vs ++ [Value.int x]) 11 = n_v vs 11 := n_v_old (by rw [hl]; decide)
  have e_13 : n_v (vs ++ [Value.int x]) 13 = Value.int x := n_v_new hl
  have nf0 : fc_1 (20, [13, 0, 11], [2, 22, 25, 0, 2]) ws (vs ++ [Value.int x]) := by
    refine ⟨fun n hn => ?_, ?_⟩
    · have hn : n ∈ [13, 0, 11] := hn
      rw [List.length_append, hl]
      simp only [List.mem_cons, List.not_mem_nil, or_false] at hn
      show n < 13 + 1; omega
    · show 0 + 2 * w_sum ws (w_ar ws (n_v (vs ++ [Value.int x]) 0) 22) 25 + v_iv (n_v (vs ++ [Value.int x]) 11) + 1 ≤ v_iv (n_v (vs ++ [Value.int x]) 13)
      rw [e_0]
      rw [e_11]
      rw [e_13]
      omega
  obtain ⟨x0, e0, _, _⟩ := tv_int t7 rfl
  have e1 : v_iv (n_v vs 7) = x0.toInt := by rw [e0]; rfl
  have ho : sy_ofs (vs ++ [Value.int x]) (13, 7, 0, 0) := by
    refine ⟨x, x0, by rw [List.getElem?_append_right (by rw [hl]; decide), hl]; rfl, ?_, ?_, ?_⟩
    · rw [List.getElem?_append_left (by rw [hl]; decide)]; exact n_v_some (by rw [hl]; decide) e0
    · show x0.toInt + 0 ≤ x.toInt; omega
    · show x.toInt ≤ x0.toInt + 0; omega
  exact ⟨fun q hq => (by cases hq), [Value.int x], ag_one hx, List.forall_mem_cons.mpr ⟨⟨by decide, nf0⟩, (fun _ h => (by cases h))⟩, List.forall_mem_cons.mpr ⟨ho, (fun _ h => (by cases h))⟩⟩
def o_Mo_isInCore_5 : or_T := (34, 10, [(0, (2, 0, 0, [150])), (3, (0, 0, 1, [])), (7, (0, 0, 51, []))], [(20, [7, 0, 3], [2, 22, 25, 0, 2])], [], [(0, 0, 51, [])], [(20, [10, 0, 3], [2, 22, 25, 0, 2])], [(10, 7, 0, 0)], [])
theorem oo_Mo_isInCore_5 {kA : Nat → ClassId} : or_ok kA GG o_Mo_isInCore_5 := by
  intro A ta ws vs hD hth hl hk hds hf
  have hl : vs.length = 10 := hl
  have hk : ∀ q ∈ ([(0, (2, 0, 0, [150])), (3, (0, 0, 1, [])), (7, (0, 0, 51, []))] : List (Nat × tv_T)), tv_ok ta q.2 (n_v vs q.1) := hk
  obtain ⟨t0, hk⟩ := List.forall_mem_cons.mp hk
  have t0 : tv_ok ta (2, 0, 0, [150]) (n_v vs 0) := t0
  have r0 : ta (v_ad (n_v vs 0)) = some 150 := tv_rg t0
  obtain ⟨t3, hk⟩ := List.forall_mem_cons.mp hk
  have t3 : tv_ok ta (0, 0, 1, []) (n_v vs 3) := t3
  have k3 : 0 ≤ v_iv (n_v vs 3) ∧ v_iv (n_v vs 3) ≤ 1 := tv_rng t3
  obtain ⟨t7, hk⟩ := List.forall_mem_cons.mp hk
  have t7 : tv_ok ta (0, 0, 51, []) (n_v vs 7) := t7
  have k7 : 0 ≤ v_iv (n_v vs 7) ∧ v_iv (n_v vs 7) ≤ 51 := tv_rng t7
  have hf : fc_ok [(20, [7, 0, 3], [2, 22, 25, 0, 2])] ta ws vs := hf
  obtain ⟨f0, hf⟩ := fc_un (by decide) hf
  have f0 : 0 + 2 * w_sum ws (w_ar ws (n_v vs 0) 22) 25 + v_iv (n_v vs 3) + 1 ≤ v_iv (n_v vs 7) := f0
  have key : 0 + 2 * w_sum ws (w_ar ws (n_v vs 0) 22) 25 + v_iv (n_v vs 3) + 1 ≤ v_iv (n_v vs 7) := by omega
  obtain ⟨x, ex, hx⟩ := iv_ex (ta := ta) (lo := 0) (hi := 51) (z := v_iv (n_v vs 7)) (by omega) (by omega) (by decide) (by decide)
  have ex2 : v_iv (Value.int x) = v_iv (n_v vs 7) := ex
  have e_0 : n_v (vs ++ [Value.int x]) 0 = n_v vs 0 := n_v_old (by rw [hl]; decide)
  have e_3 : n_v (vs ++ [Value.int x]) 3 = n_v vs 3 := n_v_old (by rw [hl]; decide)
  have e_10 : n_v (vs ++ [Value.int x]) 10 = Value.int x := n_v_new hl
  have nf0 : fc_1 (20, [10, 0, 3], [2, 22, 25, 0, 2]) ws (vs ++ [Value.int x]) := by
    refine ⟨fun n hn => ?_, ?_⟩
    · have hn : n ∈ [10, 0, 3] := hn
      rw [List.length_append, hl]
      simp only [List.mem_cons, List.not_mem_nil, or_false] at hn
      show n < 10 + 1; omega
    · show 0 + 2 * w_sum ws (w_ar ws (n_v (vs ++ [Value.int x]) 0) 22) 25 + v_iv (n_v (vs ++ [Value.int x]) 3) + 1 ≤ v_iv (n_v (vs ++ [Value.int x]) 10)
      rw [e_0]
      rw [e_3]
      rw [e_10]
      omega
  obtain ⟨x0, e0, _, _⟩ := tv_int t7 rfl
  have e1 : v_iv (n_v vs 7) = x0.toInt := by rw [e0]; rfl
  have ho : sy_ofs (vs ++ [Value.int x]) (10, 7, 0, 0) := by
    refine ⟨x, x0, by rw [List.getElem?_append_right (by rw [hl]; decide), hl]; rfl, ?_, ?_, ?_⟩
    · rw [List.getElem?_append_left (by rw [hl]; decide)]; exact n_v_some (by rw [hl]; decide) e0
    · show x0.toInt + 0 ≤ x.toInt; omega
    · show x.toInt ≤ x0.toInt + 0; omega
  exact ⟨fun q hq => (by cases hq), [Value.int x], ag_one hx, List.forall_mem_cons.mpr ⟨⟨by decide, nf0⟩, (fun _ h => (by cases h))⟩, List.forall_mem_cons.mpr ⟨ho, (fun _ h => (by cases h))⟩⟩
def n_Mo_isInCore_an : List an_T := [(2, [(0, (2, 0, 0, [150])), (1, (0, 0, 23, [])), (2, (0, -2147483648, 2147483647, [])), (3, (0, 0, 24, []))], [], (0, 0), [(0, 0, 99998), (1, 3, 24), (0, 0, 100000), (0, 0, 0), (0, 0, 0), (0, 0, 0), (0, 0, 0)], [], [], [], 0, [], []), (25, [(0, (2, 0, 0, [150])), (1, (0, 0, 23, [])), (2, (0, -2147483648, 2147483647, [])), (3, (0, 0, 1, []))], [], (0, 0), [(0, 0, 99975), (2, 4, 0), (0, 0, 100000), (0, 0, 0), (0, 0, 0), (0, 0, 0), (0, 0, 0)], [], [], [], 0, [(0, 0, 51, [])], [(20, [4, 0, 3], [1, 22, 25, 0, 2])]), (34, [(0, (2, 0, 0, [150])), (1, (0, 0, 23, [])), (2, (0, -2147483648, 2147483647, [])), (3, (0, 0, 1, [])), (4, (0, 0, 24, []))], [], (0, 0), [(0, 0, 99975), (2, 5, 0), (0, 0, 99966), (1, 4, 24), (0, 0, 100000), (0, 0, 0), (0, 0, 0)], [], [], [], 0, [(0, 0, 51, [])], [(20, [5, 0, 3], [2, 22, 25, 0, 2])]), (62, [(0, (2, 0, 0, [150])), (1, (0, 0, 23, [])), (2, (0, -2147483648, 2147483647, [])), (3, (0, 0, 1, [])), (4, (0, 0, 23, [])), (5, (0, -2147483648, 2147483647, [])), (6, (0, 0, 48, []))], [], (0, 0), [(0, 0, 99975), (2, 7, 0), (0, 0, 99966), (1, 4, 24), (0, 0, 99938), (1, 6, 48), (0, 0, 100000)], [], [], [], 0, [(0, 0, 51, [])], [(20, [7, 0, 3], [2, 22, 25, 0, 2]), (20, [0, 4], [5, 22, 1])])]
def t_Mo_isInCore_ct : ct_L := [(1, 401, e_Mo_edges), (1, 405, e_Mo_has), (1, 475, e_Mo_nodes), (1, 563, e_Mo_other)]
set_option maxRecDepth 100000 in
theorem c_Mo_isInCore {l : Launch} {D : va_G} {kA : Nat → ClassId} (h_Mo_edges : ct_ok l D kA GG y_Mo_edges z_Mo_edges e_Mo_edges) (h_Mo_has : ct_ok l D kA GG y_Mo_has z_Mo_has e_Mo_has) (h_Mo_nodes : ct_ok l D kA GG y_Mo_nodes z_Mo_nodes e_Mo_nodes) (h_Mo_other : ct_ok l D kA GG y_Mo_other z_Mo_other e_Mo_other) : ct_ok l D kA GG y_Mo_isInCore z_Mo_isInCore e_Mo_isInCore := chk_all_ok (FT := [(48, 13, 22)]) (PT := []) (CT := t_Mo_isInCore_ct) (KT := []) (NT := []) (AN := n_Mo_isInCore_an) (OT := [o_Mo_isInCore_0, o_Mo_isInCore_1, o_Mo_isInCore_2, o_Mo_isInCore_3, o_Mo_isInCore_4, o_Mo_isInCore_5]) 7 372 (List.forall_mem_cons.mpr ⟨oo_Mo_isInCore_0, List.forall_mem_cons.mpr ⟨oo_Mo_isInCore_1, List.forall_mem_cons.mpr ⟨oo_Mo_isInCore_2, List.forall_mem_cons.mpr ⟨oo_Mo_isInCore_3, List.forall_mem_cons.mpr ⟨oo_Mo_isInCore_4, List.forall_mem_cons.mpr ⟨oo_Mo_isInCore_5, List.forall_mem_nil _⟩⟩⟩⟩⟩⟩) (by decide +kernel) ⟨List.forall_mem_cons.mpr ⟨gf_Mo_48, List.forall_mem_nil _⟩, List.forall_mem_nil _, List.forall_mem_cons.mpr ⟨cl_virtual (y := y_Mo_edges) (ci := 13) rfl rfl ⟨_, _, rfl⟩ (by decide +kernel) h_Mo_edges wm_3037 wm_9 wm_3034 wm_3036 wv_13_6 ⟨by decide, by decide, by decide +kernel⟩ (by decide), List.forall_mem_cons.mpr ⟨cl_virtual (y := y_Mo_has) (ci := 13) rfl rfl ⟨_, _, rfl⟩ (by decide +kernel) h_Mo_has wm_3041 wm_9 wm_3038 wm_3040 wv_13_7 ⟨by decide, by decide, by decide +kernel⟩ (by decide), List.forall_mem_cons.mpr ⟨cl_virtual (y := y_Mo_nodes) (ci := 13) rfl rfl ⟨_, _, rfl⟩ (by decide +kernel) h_Mo_nodes wm_3025 wm_9 wm_3022 wm_3024 wv_13_3 ⟨by decide, by decide, by decide +kernel⟩ (by decide), List.forall_mem_cons.mpr ⟨cl_virtual (y := y_Mo_other) (ci := 13) rfl rfl ⟨_, _, rfl⟩ (by decide +kernel) h_Mo_other wm_3331 wm_9 wm_3328 wm_3330 wv_17_6 ⟨by decide, by decide, by decide +kernel⟩ (by decide), List.forall_mem_nil _⟩⟩⟩⟩, List.forall_mem_nil _, List.forall_mem_nil _⟩ (by decide +kernel)
def n_Mo_isShared_an : List an_T := [(3, [(0, (2, 0, 0, [150])), (1, (0, 0, 47, [])), (2, (0, 0, 47, [])), (3, (1, -2147483648, 2147483647, [])), (5, (1, -2147483648, 2147483647, [])), (7, (0, 0, 24, []))], [], (0, 0), [(0, 0, 99997), (1, 5, 24), (0, 0, 100000)], [], [], [], 0, [], [])]
def t_Mo_isShared_ct : ct_L := [(1, 405, e_Mo_has), (1, 475, e_Mo_nodes), (1, 1023, e_Mo_px), (1, 1029, e_Mo_py)]
set_option maxRecDepth 100000 in
theorem c_Mo_isShared {l : Launch} {D : va_G} {kA : Nat → ClassId} (h_Mo_has : ct_ok l D kA GG y_Mo_has z_Mo_has e_Mo_has) (h_Mo_nodes : ct_ok l D kA GG y_Mo_nodes z_Mo_nodes e_Mo_nodes) (h_Mo_px : ct_ok l D kA GG y_Mo_px z_Mo_px e_Mo_px) (h_Mo_py : ct_ok l D kA GG y_Mo_py z_Mo_py e_Mo_py) : ct_ok l D kA GG y_Mo_isShared z_Mo_isShared e_Mo_isShared := chk_all_ok (FT := []) (PT := []) (CT := t_Mo_isShared_ct) (KT := []) (NT := []) (AN := n_Mo_isShared_an) (OT := []) 3 200 (List.forall_mem_nil _) (by decide +kernel) ⟨List.forall_mem_nil _, List.forall_mem_nil _, List.forall_mem_cons.mpr ⟨cl_virtual (y := y_Mo_has) (ci := 13) rfl rfl ⟨_, _, rfl⟩ (by decide +kernel) h_Mo_has wm_3041 wm_9 wm_3038 wm_3040 wv_13_7 ⟨by decide, by decide, by decide +kernel⟩ (by decide), List.forall_mem_cons.mpr ⟨cl_virtual (y := y_Mo_nodes) (ci := 13) rfl rfl ⟨_, _, rfl⟩ (by decide +kernel) h_Mo_nodes wm_3025 wm_9 wm_3022 wm_3024 wv_13_3 ⟨by decide, by decide, by decide +kernel⟩ (by decide), List.forall_mem_cons.mpr ⟨cl_virtual (y := y_Mo_px) (ci := 13) rfl rfl ⟨_, _, rfl⟩ (by decide +kernel) h_Mo_px wm_3675 wm_9 wm_3672 wm_3674 wv_21_14 ⟨by decide, by decide, by decide +kernel⟩ (by decide), List.forall_mem_cons.mpr ⟨cl_virtual (y := y_Mo_py) (ci := 13) rfl rfl ⟨_, _, rfl⟩ (by decide +kernel) h_Mo_py wm_3679 wm_9 wm_3676 wm_3678 wv_21_15 ⟨by decide, by decide, by decide +kernel⟩ (by decide), List.forall_mem_nil _⟩⟩⟩⟩, List.forall_mem_nil _, List.forall_mem_nil _⟩ (by decide +kernel)
def n_Mo_letter_an : List an_T := []
def t_Mo_letter_ct : ct_L := [(0, 387, e_Mo_in), (0, 521, e_Mo_isPlace), (1, 475, e_Mo_nodes), (1, 509, e_Mo_groups), (1, 527, e_Mo_take)]
set_option maxRecDepth 100000 in
theorem c_Mo_letter {l : Launch} {D : va_G} {kA : Nat → ClassId} (h_Mo_groups : ct_ok l D kA GG y_Mo_groups z_Mo_groups e_Mo_groups) (h_Mo_in : ct_ok l D kA GG y_Mo_in z_Mo_in e_Mo_in) (h_Mo_isPlace : ct_ok l D kA GG y_Mo_isPlace z_Mo_isPlace e_Mo_isPlace) (h_Mo_nodes : ct_ok l D kA GG y_Mo_nodes z_Mo_nodes e_Mo_nodes) (h_Mo_take : ct_ok l D kA GG y_Mo_take z_Mo_take e_Mo_take) : ct_ok l D kA GG y_Mo_letter z_Mo_letter e_Mo_letter := chk_all_ok (FT := [(16, 13, 2), (391, 13, 5)]) (PT := []) (CT := t_Mo_letter_ct) (KT := []) (NT := []) (AN := n_Mo_letter_an) (OT := []) 0 528 (List.forall_mem_nil _) (by decide +kernel) ⟨List.forall_mem_cons.mpr ⟨gf_Mo_16, List.forall_mem_cons.mpr ⟨gf_Mo_391, List.forall_mem_nil _⟩⟩, List.forall_mem_nil _, List.forall_mem_cons.mpr ⟨cl_static (y := y_Mo_in) h_Mo_in wm_2971 wm_9 wm_2969 wm_2970 ⟨by decide, by decide, by decide +kernel⟩ (by decide), List.forall_mem_cons.mpr ⟨cl_static (y := y_Mo_isPlace) h_Mo_isPlace wm_2978 wm_9 wm_2976 wm_2977 ⟨by decide, by decide, by decide +kernel⟩ (by decide), List.forall_mem_cons.mpr ⟨cl_virtual (y := y_Mo_nodes) (ci := 13) rfl rfl ⟨_, _, rfl⟩ (by decide +kernel) h_Mo_nodes wm_3025 wm_9 wm_3022 wm_3024 wv_13_3 ⟨by decide, by decide, by decide +kernel⟩ (by decide), List.forall_mem_cons.mpr ⟨cl_virtual (y := y_Mo_groups) (ci := 13) rfl rfl ⟨_, _, rfl⟩ (by decide +kernel) h_Mo_groups wm_3070 wm_9 wm_3067 wm_3069 wv_13_14 ⟨by decide, by decide, by decide +kernel⟩ (by decide), List.forall_mem_cons.mpr ⟨cl_virtual (y := y_Mo_take) (ci := 13) rfl rfl ⟨_, _, rfl⟩ (by decide +kernel) h_Mo_take wm_3091 wm_9 wm_3088 wm_3090 wv_14_2 ⟨by decide, by decide, by decide +kernel⟩ (by decide), List.forall_mem_nil _⟩⟩⟩⟩⟩, List.forall_mem_nil _, List.forall_mem_nil _⟩ (by decide +kernel)
def n_Mo_parts_an : List an_T := [(4, [(0, (2, 0, 0, [150])), (1, (0, 0, 0, [])), (2, (0, 0, 24, []))], [], (0, 0), [(0, 0, 99996), (1, 2, 24), (0, 0, 100000), (0, 0, 0), (0, 0, 0)], [(1, 2, -1000000000000, 0)], [], [], 0, [], []), (27, [(0, (2, 0, 0, [150])), (1, (0, 0, 24, [])), (2, (0, 0, 24, []))], [], (0, 0), [(0, 0, 99973), (1, 2, 24), (0, 0, 100000), (0, 0, 0), (0, 0, 0)], [(1, 2, -1000000000000, 0)], [], [], 0, [], []), (54, [(0, (2, 0, 0, [150])), (1, (0, 0, 23, [])), (2, (0, 0, 23, [])), (3, (0, 0, 24, []))], [], (0, 0), [(0, 0, 99973), (1, 2, 24), (0, 0, 99946), (1, 3, 24), (0, 0, 100000)], [(1, 2, -1000000000000, 0)], [], [], 0, [], [])]
def t_Mo_parts_ct : ct_L := [(1, 475, e_Mo_nodes), (1, 550, e_Mo_farFrom)]
set_option maxRecDepth 100000 in
theorem c_Mo_parts {l : Launch} {D : va_G} {kA : Nat → ClassId} (h_Mo_farFrom : ct_ok l D kA GG y_Mo_farFrom z_Mo_farFrom e_Mo_farFrom) (h_Mo_nodes : ct_ok l D kA GG y_Mo_nodes z_Mo_nodes e_Mo_nodes) : ct_ok l D kA GG y_Mo_parts z_Mo_parts e_Mo_parts := chk_all_ok (FT := [(29, 13, 16), (38, 13, 19)]) (PT := []) (CT := t_Mo_parts_ct) (KT := [(1, 546, .int (1000000), (0, 1000000, 1000000, []))]) (NT := []) (AN := n_Mo_parts_an) (OT := []) 5 232 (List.forall_mem_nil _) (by decide +kernel) ⟨List.forall_mem_cons.mpr ⟨gf_Mo_29, List.forall_mem_cons.mpr ⟨gf_Mo_38, List.forall_mem_nil _⟩⟩, List.forall_mem_nil _, List.forall_mem_cons.mpr ⟨cl_virtual (y := y_Mo_nodes) (ci := 13) rfl rfl ⟨_, _, rfl⟩ (by decide +kernel) h_Mo_nodes wm_3025 wm_9 wm_3022 wm_3024 wv_13_3 ⟨by decide, by decide, by decide +kernel⟩ (by decide), List.forall_mem_cons.mpr ⟨cl_virtual (y := y_Mo_farFrom) (ci := 13) rfl rfl ⟨_, _, rfl⟩ (by decide +kernel) h_Mo_farFrom wm_3287 wm_9 wm_3284 wm_3286 wv_16_12 ⟨by decide, by decide, by decide +kernel⟩ (by decide), List.forall_mem_nil _⟩⟩, List.forall_mem_cons.mpr ⟨kx_Mo_1_546, List.forall_mem_nil _⟩, List.forall_mem_nil _⟩ (by decide +kernel)
def n_Mo_put_an : List an_T := []
def t_Mo_put_ct : ct_L := [(0, 387, e_Mo_in), (0, 521, e_Mo_isPlace), (1, 401, e_Mo_edges), (1, 475, e_Mo_nodes), (1, 527, e_Mo_take)]
set_option maxRecDepth 100000 in
theorem c_Mo_put {l : Launch} {D : va_G} {kA : Nat → ClassId} (h_Mo_edges : ct_ok l D kA GG y_Mo_edges z_Mo_edges e_Mo_edges) (h_Mo_in : ct_ok l D kA GG y_Mo_in z_Mo_in e_Mo_in) (h_Mo_isPlace : ct_ok l D kA GG y_Mo_isPlace z_Mo_isPlace e_Mo_isPlace) (h_Mo_nodes : ct_ok l D kA GG y_Mo_nodes z_Mo_nodes e_Mo_nodes) (h_Mo_take : ct_ok l D kA GG y_Mo_take z_Mo_take e_Mo_take) : ct_ok l D kA GG y_Mo_put z_Mo_put e_Mo_put := chk_all_ok (FT := [(120, 13, 61), (123, 13, 62), (126, 13, 63), (129, 13, 64), (132, 13, 65), (135, 13, 66)]) (PT := []) (CT := t_Mo_put_ct) (KT := [(1, 546, .int (1000000), (0, 1000000, 1000000, [])), (1, 776, .int (Int32.ofInt (-1000000)), (0, -1000000, -1000000, []))]) (NT := []) (AN := n_Mo_put_an) (OT := []) 0 560 (List.forall_mem_nil _) (by decide +kernel) ⟨List.forall_mem_cons.mpr ⟨gf_Mo_120, List.forall_mem_cons.mpr ⟨gf_Mo_123, List.forall_mem_cons.mpr ⟨gf_Mo_126, List.forall_mem_cons.mpr ⟨gf_Mo_129, List.forall_mem_cons.mpr ⟨gf_Mo_132, List.forall_mem_cons.mpr ⟨gf_Mo_135, List.forall_mem_nil _⟩⟩⟩⟩⟩⟩, List.forall_mem_nil _, List.forall_mem_cons.mpr ⟨cl_static (y := y_Mo_in) h_Mo_in wm_2971 wm_9 wm_2969 wm_2970 ⟨by decide, by decide, by decide +kernel⟩ (by decide), List.forall_mem_cons.mpr ⟨cl_static (y := y_Mo_isPlace) h_Mo_isPlace wm_2978 wm_9 wm_2976 wm_2977 ⟨by decide, by decide, by decide +kernel⟩ (by decide), List.forall_mem_cons.mpr ⟨cl_virtual (y := y_Mo_edges) (ci := 13) rfl rfl ⟨_, _, rfl⟩ (by decide +kernel) h_Mo_edges wm_3037 wm_9 wm_3034 wm_3036 wv_13_6 ⟨by decide, by decide, by decide +kernel⟩ (by decide), List.forall_mem_cons.mpr ⟨cl_virtual (y := y_Mo_nodes) (ci := 13) rfl rfl ⟨_, _, rfl⟩ (by decide +kernel) h_Mo_nodes wm_3025 wm_9 wm_3022 wm_3024 wv_13_3 ⟨by decide, by decide, by decide +kernel⟩ (by decide), List.forall_mem_cons.mpr ⟨cl_virtual (y := y_Mo_take) (ci := 13) rfl rfl ⟨_, _, rfl⟩ (by decide +kernel) h_Mo_take wm_3091 wm_9 wm_3088 wm_3090 wv_14_2 ⟨by decide, by decide, by decide +kernel⟩ (by decide), List.forall_mem_nil _⟩⟩⟩⟩⟩, List.forall_mem_cons.mpr ⟨kx_Mo_1_546, List.forall_mem_cons.mpr ⟨kx_Mo_1_776, List.forall_mem_nil _⟩⟩, List.forall_mem_nil _⟩ (by decide +kernel)
def n_Mo_shade_an : List an_T := []
def t_Mo_shade_ct : ct_L := [(0, 387, e_Mo_in), (0, 521, e_Mo_isPlace), (1, 401, e_Mo_edges), (1, 475, e_Mo_nodes), (1, 527, e_Mo_take)]
set_option maxRecDepth 100000 in
theorem c_Mo_shade {l : Launch} {D : va_G} {kA : Nat → ClassId} (h_Mo_edges : ct_ok l D kA GG y_Mo_edges z_Mo_edges e_Mo_edges) (h_Mo_in : ct_ok l D kA GG y_Mo_in z_Mo_in e_Mo_in) (h_Mo_isPlace : ct_ok l D kA GG y_Mo_isPlace z_Mo_isPlace e_Mo_isPlace) (h_Mo_nodes : ct_ok l D kA GG y_Mo_nodes z_Mo_nodes e_Mo_nodes) (h_Mo_take : ct_ok l D kA GG y_Mo_take z_Mo_take e_Mo_take) : ct_ok l D kA GG y_Mo_shade z_Mo_shade e_Mo_shade := chk_all_ok (FT := [(156, 13, 73)]) (PT := []) (CT := t_Mo_shade_ct) (KT := []) (NT := []) (AN := n_Mo_shade_an) (OT := []) 0 396 (List.forall_mem_nil _) (by decide +kernel) ⟨List.forall_mem_cons.mpr ⟨gf_Mo_156, List.forall_mem_nil _⟩, List.forall_mem_nil _, List.forall_mem_cons.mpr ⟨cl_static (y := y_Mo_in) h_Mo_in wm_2971 wm_9 wm_2969 wm_2970 ⟨by decide, by decide, by decide +kernel⟩ (by decide), List.forall_mem_cons.mpr ⟨cl_static (y := y_Mo_isPlace) h_Mo_isPlace wm_2978 wm_9 wm_2976 wm_2977 ⟨by decide, by decide, by decide +kernel⟩ (by decide), List.forall_mem_cons.mpr ⟨cl_virtual (y := y_Mo_edges) (ci := 13) rfl rfl ⟨_, _, rfl⟩ (by decide +kernel) h_Mo_edges wm_3037 wm_9 wm_3034 wm_3036 wv_13_6 ⟨by decide, by decide, by decide +kernel⟩ (by decide), List.forall_mem_cons.mpr ⟨cl_virtual (y := y_Mo_nodes) (ci := 13) rfl rfl ⟨_, _, rfl⟩ (by decide +kernel) h_Mo_nodes wm_3025 wm_9 wm_3022 wm_3024 wv_13_3 ⟨by decide, by decide, by decide +kernel⟩ (by decide), List.forall_mem_cons.mpr ⟨cl_virtual (y := y_Mo_take) (ci := 13) rfl rfl ⟨_, _, rfl⟩ (by decide +kernel) h_Mo_take wm_3091 wm_9 wm_3088 wm_3090 wv_14_2 ⟨by decide, by decide, by decide +kernel⟩ (by decide), List.forall_mem_nil _⟩⟩⟩⟩⟩, List.forall_mem_nil _, List.forall_mem_nil _⟩ (by decide +kernel)
def n_Mo_strong_an : List an_T := [(9, [(0, (2, 0, 0, [150])), (1, (0, 0, 1, [])), (2, (0, 0, 0, [])), (3, (0, 0, 24, []))], [], (0, 0), [(0, 0, 99991), (1, 3, 24), (0, 0, 100000), (0, 0, 0), (0, 0, 0)], [(1, 2, -1000000000000, 1), (1, 3, -1000000000000, 1), (2, 1, -1000000000000, 0), (2, 3, -1000000000000, 0)], [], [], 0, [], []), (32, [(0, (2, 0, 0, [150])), (1, (0, 0, 1, [])), (2, (0, 0, 24, [])), (3, (0, 0, 24, []))], [], (0, 0), [(0, 0, 99968), (1, 3, 24), (0, 0, 100000), (0, 0, 0), (0, 0, 0)], [(1, 2, -1000000000000, 1), (1, 3, -1000000000000, 1), (2, 3, -1000000000000, 0)], [], [], 0, [], []), (55, [(0, (2, 0, 0, [150])), (1, (0, 0, 1, [])), (2, (0, 0, 23, [])), (3, (0, 0, 23, [])), (4, (0, 0, 24, []))], [], (0, 0), [(0, 0, 99968), (1, 3, 24), (0, 0, 99945), (1, 4, 24), (0, 0, 100000)], [(1, 2, -1000000000000, 1), (1, 3, -1000000000000, 1), (1, 4, -1000000000000, 1), (2, 3, -1000000000000, 0), (2, 4, -1000000000000, 0), (3, 4, -1000000000000, 0)], [], [], 0, [], [])]
def t_Mo_strong_ct : ct_L := [(1, 475, e_Mo_nodes), (1, 556, e_Mo_reaching)]
set_option maxRecDepth 100000 in
theorem c_Mo_strong {l : Launch} {D : va_G} {kA : Nat → ClassId} (h_Mo_nodes : ct_ok l D kA GG y_Mo_nodes z_Mo_nodes e_Mo_nodes) (h_Mo_reaching : ct_ok l D kA GG y_Mo_reaching z_Mo_reaching e_Mo_reaching) : ct_ok l D kA GG y_Mo_strong z_Mo_strong e_Mo_strong := chk_all_ok (FT := [(35, 13, 18), (44, 13, 21)]) (PT := []) (CT := t_Mo_strong_ct) (KT := []) (NT := []) (AN := n_Mo_strong_an) (OT := []) 5 288 (List.forall_mem_nil _) (by decide +kernel) ⟨List.forall_mem_cons.mpr ⟨gf_Mo_35, List.forall_mem_cons.mpr ⟨gf_Mo_44, List.forall_mem_nil _⟩⟩, List.forall_mem_nil _, List.forall_mem_cons.mpr ⟨cl_virtual (y := y_Mo_nodes) (ci := 13) rfl rfl ⟨_, _, rfl⟩ (by decide +kernel) h_Mo_nodes wm_3025 wm_9 wm_3022 wm_3024 wv_13_3 ⟨by decide, by decide, by decide +kernel⟩ (by decide), List.forall_mem_cons.mpr ⟨cl_virtual (y := y_Mo_reaching) (ci := 13) rfl rfl ⟨_, _, rfl⟩ (by decide +kernel) h_Mo_reaching wm_3295 wm_9 wm_3292 wm_3294 wv_16_14 ⟨by decide, by decide, by decide +kernel⟩ (by decide), List.forall_mem_nil _⟩⟩, List.forall_mem_nil _, List.forall_mem_nil _⟩ (by decide +kernel)
def n_Ho_told_an : List an_T := []
def t_Ho_told_ct : ct_L := [(0, 115, e_Ho_isPlace), (1, 316, e_Dr_report)]
set_option maxRecDepth 100000 in
theorem c_Ho_told {l : Launch} {D : va_G} {kA : Nat → ClassId} (h_Dr_report : ct_ok l D kA GG y_Dr_report z_Dr_report e_Dr_report) (h_Ho_isPlace : ct_ok l D kA GG y_Ho_isPlace z_Ho_isPlace e_Ho_isPlace) : ct_ok l D kA GG y_Ho_told z_Ho_told e_Ho_told := chk_all_ok (FT := [(31, 12, 3)]) (PT := []) (CT := t_Ho_told_ct) (KT := []) (NT := []) (AN := n_Ho_told_an) (OT := []) 0 200 (List.forall_mem_nil _) (by decide +kernel) ⟨List.forall_mem_cons.mpr ⟨gf_Ho_31, List.forall_mem_nil _⟩, List.forall_mem_nil _, List.forall_mem_cons.mpr ⟨cl_static (y := y_Ho_isPlace) h_Ho_isPlace wm_633 wm_1 wm_631 wm_632 ⟨by decide, by decide, by decide +kernel⟩ (by decide), List.forall_mem_cons.mpr ⟨cl_virtual (y := y_Dr_report) (ci := 0) rfl rfl ⟨_, _, rfl⟩ (by decide +kernel) h_Dr_report wm_1832 wm_8 wm_1829 wm_1830 wm_1831 ⟨by decide, by decide, by decide +kernel⟩ (by decide), List.forall_mem_nil _⟩⟩, List.forall_mem_nil _, List.forall_mem_nil _⟩ (by decide +kernel)
def n_Dr_countStruckNodes_an : List an_T := [(4, [(0, (2, 0, 0, [0])), (1, (1, -9223372036854775808, 9223372036854775807, [])), (3, (0, 0, 48, []))], [], (0, 0), [(0, 0, 99996), (1, 2, 48), (0, 0, 100000), (0, 0, 0), (0, 0, 0)], [], [], [], 0, [], []), (18, [(0, (2, 0, 0, [0])), (1, (1, -9223372036854775808, 9223372036854775807, [])), (3, (0, 0, 47, [])), (4, (0, 0, 24, []))], [], (0, 0), [(0, 0, 99996), (1, 2, 48), (0, 0, 99982), (1, 3, 24), (0, 0, 100000)], [], [], [], 0, [], [])]
def t_Dr_countStruckNodes_ct : ct_L := [(1, 210, e_Dr_isStruck)]
set_option maxRecDepth 100000 in
theorem c_Dr_countStruckNodes {l : Launch} {D : va_G} {kA : Nat → ClassId} (h_Dr_isStruck : ct_ok l D kA GG y_Dr_isStruck z_Dr_isStruck e_Dr_isStruck) : ct_ok l D kA GG y_Dr_countStruckNodes z_Dr_countStruckNodes e_Dr_countStruckNodes := chk_all_ok (FT := [(74, 0, 0), (106, 3, 7), (109, 3, 8), (141, 3, 0), (151, 3, 1)]) (PT := []) (CT := t_Dr_countStruckNodes_ct) (KT := []) (NT := []) (AN := n_Dr_countStruckNodes_an) (OT := []) 5 204 (List.forall_mem_nil _) (by decide +kernel) ⟨List.forall_mem_cons.mpr ⟨gf_Dr_74, List.forall_mem_cons.mpr ⟨gf_Dr_106, List.forall_mem_cons.mpr ⟨gf_Dr_109, List.forall_mem_cons.mpr ⟨gf_Dr_141, List.forall_mem_cons.mpr ⟨gf_Dr_151, List.forall_mem_nil _⟩⟩⟩⟩⟩, List.forall_mem_nil _, List.forall_mem_cons.mpr ⟨cl_virtual (y := y_Dr_isStruck) (ci := 0) rfl rfl ⟨_, _, rfl⟩ (by decide +kernel) h_Dr_isStruck wm_2046 wm_8 wm_2043 wm_2045 wv_10_2 ⟨by decide, by decide, by decide +kernel⟩ (by decide), List.forall_mem_nil _⟩, List.forall_mem_nil _, List.forall_mem_nil _⟩ (by decide +kernel)
