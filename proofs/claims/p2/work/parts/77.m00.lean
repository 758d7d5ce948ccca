def n_Ho_dot_an : List an_T := []
def t_Ho_dot_ct : ct_L := []
set_option maxRecDepth 100000 in
theorem c_Ho_dot {l : Launch} {D : va_G} {kA : Nat → ClassId} : ct_ok l D kA GG y_Ho_dot z_Ho_dot e_Ho_dot := chk_all_ok (FT := [(73, 12, 13), (76, 12, 14), (79, 12, 15)]) (PT := []) (CT := t_Ho_dot_ct) (KT := []) (NT := []) (AN := n_Ho_dot_an) (OT := []) 0 200 (List.forall_mem_nil _) (by decide +kernel) ⟨List.forall_mem_cons.mpr ⟨gf_Ho_73, List.forall_mem_cons.mpr ⟨gf_Ho_76, List.forall_mem_cons.mpr ⟨gf_Ho_79, List.forall_mem_nil _⟩⟩⟩, List.forall_mem_nil _, List.forall_mem_nil _, List.forall_mem_nil _, List.forall_mem_nil _⟩ (by decide +kernel)
def n_Ho_fault_an : List an_T := []
def t_Ho_fault_ct : ct_L := []
set_option maxRecDepth 100000 in
theorem c_Ho_fault {l : Launch} {D : va_G} {kA : Nat → ClassId} : ct_ok l D kA GG y_Ho_fault z_Ho_fault e_Ho_fault := chk_all_ok (FT := [(38, 12, 4), (135, 8, 2), (138, 8, 3)]) (PT := []) (CT := t_Ho_fault_ct) (KT := []) (NT := []) (AN := n_Ho_fault_an) (OT := []) 0 200 (List.forall_mem_nil _) (by decide +kernel) ⟨List.forall_mem_cons.mpr ⟨gf_Ho_38, List.forall_mem_cons.mpr ⟨gf_Ho_135, List.forall_mem_cons.mpr ⟨gf_Ho_138, List.forall_mem_nil _⟩⟩⟩, List.forall_mem_nil _, List.forall_mem_nil _, List.forall_mem_nil _, List.forall_mem_nil _⟩ (by decide +kernel)
def n_Ho_isPlace_an : List an_T := []
def t_Ho_isPlace_ct : ct_L := []
set_option maxRecDepth 100000 in
theorem c_Ho_isPlace {l : Launch} {D : va_G} {kA : Nat → ClassId} : ct_ok l D kA GG y_Ho_isPlace z_Ho_isPlace e_Ho_isPlace := chk_all_ok (FT := []) (PT := []) (CT := t_Ho_isPlace_ct) (KT := []) (NT := []) (AN := n_Ho_isPlace_an) (OT := []) 0 200 (List.forall_mem_nil _) (by decide +kernel) ⟨List.forall_mem_nil _, List.forall_mem_nil _, List.forall_mem_nil _, List.forall_mem_nil _, List.forall_mem_nil _⟩ (by decide +kernel)
def n_Ho_map_an : List an_T := []
def t_Ho_map_ct : ct_L := []
set_option maxRecDepth 100000 in
theorem c_Ho_map {l : Launch} {D : va_G} {kA : Nat → ClassId} : ct_ok l D kA GG y_Ho_map z_Ho_map e_Ho_map := chk_all_ok (FT := [(49, 12, 6), (53, 12, 7), (57, 12, 8)]) (PT := []) (CT := t_Ho_map_ct) (KT := []) (NT := []) (AN := n_Ho_map_an) (OT := []) 0 200 (List.forall_mem_nil _) (by decide +kernel) ⟨List.forall_mem_cons.mpr ⟨gf_Ho_49, List.forall_mem_cons.mpr ⟨gf_Ho_53, List.forall_mem_cons.mpr ⟨gf_Ho_57, List.forall_mem_nil _⟩⟩⟩, List.forall_mem_nil _, List.forall_mem_nil _, List.forall_mem_nil _, List.forall_mem_nil _⟩ (by decide +kernel)
def n_Ho_octet_an : List an_T := []
def t_Ho_octet_ct : ct_L := []
set_option maxRecDepth 100000 in
theorem c_Ho_octet {l : Launch} {D : va_G} {kA : Nat → ClassId} : ct_ok l D kA GG y_Ho_octet z_Ho_octet e_Ho_octet := chk_all_ok (FT := [(60, 12, 9), (67, 12, 11)]) (PT := []) (CT := t_Ho_octet_ct) (KT := []) (NT := []) (AN := n_Ho_octet_an) (OT := []) 0 200 (List.forall_mem_nil _) (by decide +kernel) ⟨List.forall_mem_cons.mpr ⟨gf_Ho_60, List.forall_mem_cons.mpr ⟨gf_Ho_67, List.forall_mem_nil _⟩⟩, List.forall_mem_nil _, List.forall_mem_nil _, List.forall_mem_nil _, List.forall_mem_nil _⟩ (by decide +kernel)
def n_Ho_setDot_an : List an_T := []
def t_Ho_setDot_ct : ct_L := []
set_option maxRecDepth 100000 in
theorem c_Ho_setDot {l : Launch} {D : va_G} {kA : Nat → ClassId} : ct_ok l D kA GG y_Ho_setDot z_Ho_setDot e_Ho_setDot := chk_all_ok (FT := [(73, 12, 13), (76, 12, 14), (79, 12, 15)]) (PT := []) (CT := t_Ho_setDot_ct) (KT := []) (NT := []) (AN := n_Ho_setDot_an) (OT := []) 0 200 (List.forall_mem_nil _) (by decide +kernel) ⟨List.forall_mem_cons.mpr ⟨gf_Ho_73, List.forall_mem_cons.mpr ⟨gf_Ho_76, List.forall_mem_cons.mpr ⟨gf_Ho_79, List.forall_mem_nil _⟩⟩⟩, List.forall_mem_nil _, List.forall_mem_nil _, List.forall_mem_nil _, List.forall_mem_nil _⟩ (by decide +kernel)
def n_Dr_countBends_an : List an_T := [(4, [(0, (2, 0, 0, [0])), (1, (1, -9223372036854775808, 9223372036854775807, [])), (3, (0, 0, 48, []))], [], (0, 0), [(0, 0, 99996), (1, 2, 48), (0, 0, 100000)], [], [], [], 0, [], [])]
def t_Dr_countBends_ct : ct_L := []
set_option maxRecDepth 100000 in
theorem c_Dr_countBends {l : Launch} {D : va_G} {kA : Nat → ClassId} : ct_ok l D kA GG y_Dr_countBends z_Dr_countBends e_Dr_countBends := chk_all_ok (FT := [(22, 0, 4), (74, 0, 0), (151, 3, 1)]) (PT := []) (CT := t_Dr_countBends_ct) (KT := []) (NT := []) (AN := n_Dr_countBends_an) (OT := []) 3 200 (List.forall_mem_nil _) (by decide +kernel) ⟨List.forall_mem_cons.mpr ⟨gf_Dr_22, List.forall_mem_cons.mpr ⟨gf_Dr_74, List.forall_mem_cons.mpr ⟨gf_Dr_151, List.forall_mem_nil _⟩⟩⟩, List.forall_mem_nil _, List.forall_mem_nil _, List.forall_mem_nil _, List.forall_mem_nil _⟩ (by decide +kernel)
def n_Dr_pointX_an : List an_T := []
def t_Dr_pointX_ct : ct_L := []
set_option maxRecDepth 100000 in
theorem c_Dr_pointX {l : Launch} {D : va_G} {kA : Nat → ClassId} : ct_ok l D kA GG y_Dr_pointX z_Dr_pointX e_Dr_pointX := chk_all_ok (FT := [(15, 0, 2), (22, 0, 4), (25, 0, 5), (74, 0, 0), (106, 3, 7), (109, 3, 8)]) (PT := []) (CT := t_Dr_pointX_ct) (KT := []) (NT := []) (AN := n_Dr_pointX_an) (OT := []) 0 200 (List.forall_mem_nil _) (by decide +kernel) ⟨List.forall_mem_cons.mpr ⟨gf_Dr_15, List.forall_mem_cons.mpr ⟨gf_Dr_22, List.forall_mem_cons.mpr ⟨gf_Dr_25, List.forall_mem_cons.mpr ⟨gf_Dr_74, List.forall_mem_cons.mpr ⟨gf_Dr_106, List.forall_mem_cons.mpr ⟨gf_Dr_109, List.forall_mem_nil _⟩⟩⟩⟩⟩⟩, List.forall_mem_nil _, List.forall_mem_nil _, List.forall_mem_nil _, List.forall_mem_nil _⟩ (by decide +kernel)
def n_Dr_pointY_an : List an_T := []
def t_Dr_pointY_ct : ct_L := []
set_option maxRecDepth 100000 in
theorem c_Dr_pointY {l : Launch} {D : va_G} {kA : Nat → ClassId} : ct_ok l D kA GG y_Dr_pointY z_Dr_pointY e_Dr_pointY := chk_all_ok (FT := [(19, 0, 3), (22, 0, 4), (28, 0, 6), (74, 0, 0), (106, 3, 7), (109, 3, 8)]) (PT := []) (CT := t_Dr_pointY_ct) (KT := []) (NT := []) (AN := n_Dr_pointY_an) (OT := []) 0 200 (List.forall_mem_nil _) (by decide +kernel) ⟨List.forall_mem_cons.mpr ⟨gf_Dr_19, List.forall_mem_cons.mpr ⟨gf_Dr_22, List.forall_mem_cons.mpr ⟨gf_Dr_28, List.forall_mem_cons.mpr ⟨gf_Dr_74, List.forall_mem_cons.mpr ⟨gf_Dr_106, List.forall_mem_cons.mpr ⟨gf_Dr_109, List.forall_mem_nil _⟩⟩⟩⟩⟩⟩, List.forall_mem_nil _, List.forall_mem_nil _, List.forall_mem_nil _, List.forall_mem_nil _⟩ (by decide +kernel)
def n_Dr_sharedNode_an : List an_T := []
def t_Dr_sharedNode_ct : ct_L := []
set_option maxRecDepth 100000 in
theorem c_Dr_sharedNode {l : Launch} {D : va_G} {kA : Nat → ClassId} : ct_ok l D kA GG y_Dr_sharedNode z_Dr_sharedNode e_Dr_sharedNode := chk_all_ok (FT := [(74, 0, 0), (106, 3, 7), (109, 3, 8)]) (PT := []) (CT := t_Dr_sharedNode_ct) (KT := []) (NT := []) (AN := n_Dr_sharedNode_an) (OT := []) 0 208 (List.forall_mem_nil _) (by decide +kernel) ⟨List.forall_mem_cons.mpr ⟨gf_Dr_74, List.forall_mem_cons.mpr ⟨gf_Dr_106, List.forall_mem_cons.mpr ⟨gf_Dr_109, List.forall_mem_nil _⟩⟩⟩, List.forall_mem_nil _, List.forall_mem_nil _, List.forall_mem_nil _, List.forall_mem_nil _⟩ (by decide +kernel)
def n_Em_countFits_an : List an_T := [(4, [(0, (2, 0, 0, [1])), (1, (0, 0, 33554431, [])), (2, (0, -2147483648, 2147483647, [])), (3, (0, 0, 50, []))], [], (0, 0), [(0, 0, 99996), (1, 3, 50), (0, 0, 100000)], [], [], [], 0, [], [])]
def t_Em_countFits_ct : ct_L := []
set_option maxRecDepth 100000 in
theorem c_Em_countFits {l : Launch} {D : va_G} {kA : Nat → ClassId} : ct_ok l D kA GG y_Em_countFits z_Em_countFits e_Em_countFits := chk_all_ok (FT := [(39, 1, 7), (48, 1, 10)]) (PT := []) (CT := t_Em_countFits_ct) (KT := []) (NT := []) (AN := n_Em_countFits_an) (OT := []) 3 200 (List.forall_mem_nil _) (by decide +kernel) ⟨List.forall_mem_cons.mpr ⟨gf_Em_39, List.forall_mem_cons.mpr ⟨gf_Em_48, List.forall_mem_nil _⟩⟩, List.forall_mem_nil _, List.forall_mem_nil _, List.forall_mem_nil _, List.forall_mem_nil _⟩ (by decide +kernel)
def n_Em_firstFit_an : List an_T := [(2, [(0, (2, 0, 0, [1])), (1, (0, 0, 33554431, [])), (2, (0, 0, 50, []))], [], (0, 0), [(0, 0, 99998), (1, 2, 50), (0, 0, 100000)], [], [], [], 0, [], [])]
def t_Em_firstFit_ct : ct_L := []
set_option maxRecDepth 100000 in
theorem c_Em_firstFit {l : Launch} {D : va_G} {kA : Nat → ClassId} : ct_ok l D kA GG y_Em_firstFit z_Em_firstFit e_Em_firstFit := chk_all_ok (FT := [(39, 1, 7), (48, 1, 10)]) (PT := []) (CT := t_Em_firstFit_ct) (KT := []) (NT := []) (AN := n_Em_firstFit_an) (OT := []) 3 200 (List.forall_mem_nil _) (by decide +kernel) ⟨List.forall_mem_cons.mpr ⟨gf_Em_39, List.forall_mem_cons.mpr ⟨gf_Em_48, List.forall_mem_nil _⟩⟩, List.forall_mem_nil _, List.forall_mem_nil _, List.forall_mem_nil _, List.forall_mem_nil _⟩ (by decide +kernel)
def n_Em_leastEdgeAt_an : List an_T := [(2, [(0, (2, 0, 0, [1])), (1, (0, 0, 24, [])), (2, (0, 0, 71, [])), (3, (0, 0, 72, []))], [], (0, 0), [(0, 0, 99998), (1, 3, 72), (0, 0, 100000)], [], [((0, 0), (2, 0, 0, [5, 149]))], [], 0, [], [])]
def t_Em_leastEdgeAt_ct : ct_L := []
set_option maxRecDepth 100000 in
theorem c_Em_leastEdgeAt {l : Launch} {D : va_G} {kA : Nat → ClassId} : ct_ok l D kA GG y_Em_leastEdgeAt z_Em_leastEdgeAt e_Em_leastEdgeAt := chk_all_ok (FT := [(9, 1, 0), (21, 1, 2), (133, 5, 6), (134, 5, 7), (135, 5, 8)]) (PT := []) (CT := t_Em_leastEdgeAt_ct) (KT := []) (NT := []) (AN := n_Em_leastEdgeAt_an) (OT := []) 3 200 (List.forall_mem_nil _) (by decide +kernel) ⟨List.forall_mem_cons.mpr ⟨gf_Em_9, List.forall_mem_cons.mpr ⟨gf_Em_21, List.forall_mem_cons.mpr ⟨gf_Em_133, List.forall_mem_cons.mpr ⟨gf_Em_134, List.forall_mem_cons.mpr ⟨gf_Em_135, List.forall_mem_nil _⟩⟩⟩⟩⟩, List.forall_mem_nil _, List.forall_mem_nil _, List.forall_mem_nil _, List.forall_mem_nil _⟩ (by decide +kernel)
def n_Fa_gather_an : List an_T := [(5, [(0, (2, 0, 0, [2])), (1, (0, 0, 24, [])), (2, (0, 0, 23, [])), (3, (0, 0, 24, [])), (4, (0, 0, 24, []))], [], (0, 0), [(0, 0, 99995), (1, 4, 24), (0, 0, 100000)], [(1, 2, -1000000000000, 24), (1, 3, -1000000000000, 24), (1, 4, -1000000000000, 24), (2, 1, -1000000000000, 23), (2, 3, -1000000000000, 23), (2, 4, -1000000000000, 23), (3, 1, -1000000000000, 0), (3, 4, -1000000000000, 0), (4, 1, -1000000000000, 0)], [], [], 0, [], [])]
def t_Fa_gather_ct : ct_L := []
set_option maxRecDepth 100000 in
theorem c_Fa_gather {l : Launch} {D : va_G} {kA : Nat → ClassId} : ct_ok l D kA GG y_Fa_gather z_Fa_gather e_Fa_gather := chk_all_ok (FT := [(48, 2, 11), (54, 2, 13)]) (PT := []) (CT := t_Fa_gather_ct) (KT := []) (NT := []) (AN := n_Fa_gather_an) (OT := []) 3 200 (List.forall_mem_nil _) (by decide +kernel) ⟨List.forall_mem_cons.mpr ⟨gf_Fa_48, List.forall_mem_cons.mpr ⟨gf_Fa_54, List.forall_mem_nil _⟩⟩, List.forall_mem_nil _, List.forall_mem_nil _, List.forall_mem_nil _, List.forall_mem_nil _⟩ (by decide +kernel)
def n_Fa_isBridge_an : List an_T := [(2, [(0, (2, 0, 0, [2])), (1, (0, 0, 47, [])), (2, (0, 0, 48, []))], [], (0, 0), [(0, 0, 99998), (1, 2, 48), (0, 0, 100000)], [], [], [], 0, [], [])]
def t_Fa_isBridge_ct : ct_L := []
set_option maxRecDepth 100000 in
theorem c_Fa_isBridge {l : Launch} {D : va_G} {kA : Nat → ClassId} : ct_ok l D kA GG y_Fa_isBridge z_Fa_isBridge e_Fa_isBridge := chk_all_ok (FT := [(29, 2, 5)]) (PT := []) (CT := t_Fa_isBridge_ct) (KT := []) (NT := []) (AN := n_Fa_isBridge_an) (OT := []) 3 200 (List.forall_mem_nil _) (by decide +kernel) ⟨List.forall_mem_cons.mpr ⟨gf_Fa_29, List.forall_mem_nil _⟩, List.forall_mem_nil _, List.forall_mem_nil _, List.forall_mem_nil _, List.forall_mem_nil _⟩ (by decide +kernel)
def n_Fa_nearOf_at_Grnear_an : List an_T := [(5, [(0, (2, 0, 0, [59])), (1, (0, 1, 24, [])), (2, (0, 0, 16777215, [])), (3, (0, 0, 16777215, [])), (4, (0, 0, 24, []))], [], (0, 0), [(0, 0, 99995), (1, 4, 24), (0, 0, 100000)], [], [], [], 0, [], [])]
def t_Fa_nearOf_at_Grnear_ct : ct_L := []
set_option maxRecDepth 100000 in
theorem c_Fa_nearOf_at_Grnear {l : Launch} {D : va_G} {kA : Nat → ClassId} : ct_ok l D kA GG y_Fa_nearOf_at_Grnear z_Fa_nearOf_at_Grnear e_Fa_nearOf_at_Grnear := chk_all_ok (FT := []) (PT := []) (CT := t_Fa_nearOf_at_Grnear_ct) (KT := []) (NT := []) (AN := n_Fa_nearOf_at_Grnear_an) (OT := []) 3 200 (List.forall_mem_nil _) (by decide +kernel) ⟨List.forall_mem_nil _, List.forall_mem_nil _, List.forall_mem_nil _, List.forall_mem_nil _, List.forall_mem_nil _⟩ (by decide +kernel)
def n_Fa_nearOf_at_Nenear_Npnear_an : List an_T := [(5, [(0, (2, 0, 0, [82, 142])), (1, (0, 0, 25, [])), (2, (0, 0, 33554431, [])), (3, (0, 0, 33554431, [])), (4, (0, 0, 25, []))], [], (0, 0), [(0, 0, 99995), (1, 4, 25), (0, 0, 100000)], [], [], [], 0, [], [])]
def t_Fa_nearOf_at_Nenear_Npnear_ct : ct_L := []
set_option maxRecDepth 100000 in
theorem c_Fa_nearOf_at_Nenear_Npnear {l : Launch} {D : va_G} {kA : Nat → ClassId} : ct_ok l D kA GG y_Fa_nearOf_at_Nenear_Npnear z_Fa_nearOf_at_Nenear_Npnear e_Fa_nearOf_at_Nenear_Npnear := chk_all_ok (FT := []) (PT := []) (CT := t_Fa_nearOf_at_Nenear_Npnear_ct) (KT := []) (NT := []) (AN := n_Fa_nearOf_at_Nenear_Npnear_an) (OT := []) 3 200 (List.forall_mem_nil _) (by decide +kernel) ⟨List.forall_mem_nil _, List.forall_mem_nil _, List.forall_mem_nil _, List.forall_mem_nil _, List.forall_mem_nil _⟩ (by decide +kernel)
def n_Fa_relabel_at_Emblock_an : List an_T := [(3, [(0, (2, 0, 0, [26])), (1, (0, 1, 72, [])), (2, (0, 0, 71, [])), (3, (0, -1, 71, [])), (4, (0, 0, 72, []))], [], (0, 0), [(0, 0, 99997), (1, 4, 72), (0, 0, 100000)], [], [], [], 0, [], [])]
def t_Fa_relabel_at_Emblock_ct : ct_L := []
set_option maxRecDepth 100000 in
theorem c_Fa_relabel_at_Emblock {l : Launch} {D : va_G} {kA : Nat → ClassId} : ct_ok l D kA GG y_Fa_relabel_at_Emblock z_Fa_relabel_at_Emblock e_Fa_relabel_at_Emblock := chk_all_ok (FT := []) (PT := []) (CT := t_Fa_relabel_at_Emblock_ct) (KT := []) (NT := []) (AN := n_Fa_relabel_at_Emblock_an) (OT := []) 3 200 (List.forall_mem_nil _) (by decide +kernel) ⟨List.forall_mem_nil _, List.forall_mem_nil _, List.forall_mem_nil _, List.forall_mem_nil _, List.forall_mem_nil _⟩ (by decide +kernel)
def n_Fa_relabel_at_Fablock_an : List an_T := [(3, [(0, (2, 0, 0, [38])), (1, (0, 1, 48, [])), (2, (0, 0, 47, [])), (3, (0, -1, 47, [])), (4, (0, 0, 48, []))], [], (0, 0), [(0, 0, 99997), (1, 4, 48), (0, 0, 100000)], [], [], [], 0, [], [])]
def t_Fa_relabel_at_Fablock_ct : ct_L := []
set_option maxRecDepth 100000 in
theorem c_Fa_relabel_at_Fablock {l : Launch} {D : va_G} {kA : Nat → ClassId} : ct_ok l D kA GG y_Fa_relabel_at_Fablock z_Fa_relabel_at_Fablock e_Fa_relabel_at_Fablock := chk_all_ok (FT := []) (PT := []) (CT := t_Fa_relabel_at_Fablock_ct) (KT := []) (NT := []) (AN := n_Fa_relabel_at_Fablock_an) (OT := []) 3 200 (List.forall_mem_nil _) (by decide +kernel) ⟨List.forall_mem_nil _, List.forall_mem_nil _, List.forall_mem_nil _, List.forall_mem_nil _, List.forall_mem_nil _⟩ (by decide +kernel)
def n_Fa_setAll_an : List an_T := [(3, [(0, (2, 0, 0, [37])), (1, (0, 1, 24, [])), (2, (0, 0, 16777215, [])), (3, (0, 0, 23, [])), (4, (0, 0, 24, []))], [], (0, 0), [(0, 0, 99997), (1, 4, 24), (0, 0, 100000)], [], [], [], 0, [], [])]
def t_Fa_setAll_ct : ct_L := []
set_option maxRecDepth 100000 in
theorem c_Fa_setAll {l : Launch} {D : va_G} {kA : Nat → ClassId} : ct_ok l D kA GG y_Fa_setAll z_Fa_setAll e_Fa_setAll := chk_all_ok (FT := []) (PT := []) (CT := t_Fa_setAll_ct) (KT := []) (NT := []) (AN := n_Fa_setAll_an) (OT := []) 3 200 (List.forall_mem_nil _) (by decide +kernel) ⟨List.forall_mem_nil _, List.forall_mem_nil _, List.forall_mem_nil _, List.forall_mem_nil _, List.forall_mem_nil _⟩ (by decide +kernel)
def n_Fa_weights_an : List an_T := [(6, [(0, (2, 0, 0, [3])), (1, (0, 0, 23, [])), (2, (0, 0, 16777215, [])), (3, (0, 0, 1, [])), (4, (0, -2147483648, 2147483647, [])), (5, (0, 0, 48, []))], [], (0, 0), [(0, 0, 99994), (1, 5, 48), (0, 0, 100000)], [], [], [], 0, [], [])]
def t_Fa_weights_ct : ct_L := []
set_option maxRecDepth 100000 in
theorem c_Fa_weights {l : Launch} {D : va_G} {kA : Nat → ClassId} : ct_ok l D kA GG y_Fa_weights z_Fa_weights e_Fa_weights := chk_all_ok (FT := [(69, 3, 1), (72, 3, 7), (75, 3, 8), (169, 3, 9)]) (PT := []) (CT := t_Fa_weights_ct) (KT := []) (NT := []) (AN := n_Fa_weights_an) (OT := []) 3 328 (List.forall_mem_nil _) (by decide +kernel) ⟨List.forall_mem_cons.mpr ⟨gf_Fa_69, List.forall_mem_cons.mpr ⟨gf_Fa_72, List.forall_mem_cons.mpr ⟨gf_Fa_75, List.forall_mem_cons.mpr ⟨gf_Fa_169, List.forall_mem_nil _⟩⟩⟩⟩, List.forall_mem_nil _, List.forall_mem_nil _, List.forall_mem_nil _, List.forall_mem_nil _⟩ (by decide +kernel)
def n_Gr_edgeBetween_an : List an_T := []
def t_Gr_edgeBetween_ct : ct_L := []
set_option maxRecDepth 100000 in
theorem c_Gr_edgeBetween {l : Launch} {D : va_G} {kA : Nat → ClassId} : ct_ok l D kA GG y_Gr_edgeBetween z_Gr_edgeBetween e_Gr_edgeBetween := chk_all_ok (FT := [(59, 3, 15)]) (PT := []) (CT := t_Gr_edgeBetween_ct) (KT := []) (NT := []) (AN := n_Gr_edgeBetween_an) (OT := []) 0 200 (List.forall_mem_nil _) (by decide +kernel) ⟨List.forall_mem_cons.mpr ⟨gf_Gr_59, List.forall_mem_nil _⟩, List.forall_mem_nil _, List.forall_mem_nil _, List.forall_mem_nil _, List.forall_mem_nil _⟩ (by decide +kernel)
def n_Gr_fourLetters_an : List an_T := []
def t_Gr_fourLetters_ct : ct_L := []
set_option maxRecDepth 100000 in
theorem c_Gr_fourLetters {l : Launch} {D : va_G} {kA : Nat → ClassId} : ct_ok l D kA GG y_Gr_fourLetters z_Gr_fourLetters e_Gr_fourLetters := chk_all_ok (FT := [(21, 3, 3)]) (PT := []) (CT := t_Gr_fourLetters_ct) (KT := []) (NT := []) (AN := n_Gr_fourLetters_an) (OT := []) 0 200 (List.forall_mem_nil _) (by decide +kernel) ⟨List.forall_mem_cons.mpr ⟨gf_Gr_21, List.forall_mem_nil _⟩, List.forall_mem_nil _, List.forall_mem_nil _, List.forall_mem_nil _, List.forall_mem_nil _⟩ (by decide +kernel)
def n_Gr_half_an : List an_T := []
def t_Gr_half_ct : ct_L := []
set_option maxRecDepth 100000 in
theorem c_Gr_half {l : Launch} {D : va_G} {kA : Nat → ClassId} : ct_ok l D kA GG y_Gr_half z_Gr_half e_Gr_half := chk_all_ok (FT := [(25, 3, 4)]) (PT := []) (CT := t_Gr_half_ct) (KT := []) (NT := []) (AN := n_Gr_half_an) (OT := []) 0 200 (List.forall_mem_nil _) (by decide +kernel) ⟨List.forall_mem_cons.mpr ⟨gf_Gr_25, List.forall_mem_nil _⟩, List.forall_mem_nil _, List.forall_mem_nil _, List.forall_mem_nil _, List.forall_mem_nil _⟩ (by decide +kernel)
def n_Gr_hasEdge_an : List an_T := []
def t_Gr_hasEdge_ct : ct_L := []
set_option maxRecDepth 100000 in
theorem c_Gr_hasEdge {l : Launch} {D : va_G} {kA : Nat → ClassId} : ct_ok l D kA GG y_Gr_hasEdge z_Gr_hasEdge e_Gr_hasEdge := chk_all_ok (FT := [(15, 3, 1)]) (PT := []) (CT := t_Gr_hasEdge_ct) (KT := []) (NT := []) (AN := n_Gr_hasEdge_an) (OT := []) 0 200 (List.forall_mem_nil _) (by decide +kernel) ⟨List.forall_mem_cons.mpr ⟨gf_Gr_15, List.forall_mem_nil _⟩, List.forall_mem_nil _, List.forall_mem_nil _, List.forall_mem_nil _, List.forall_mem_nil _⟩ (by decide +kernel)
def n_Gr_hasGroup_an : List an_T := []
def t_Gr_hasGroup_ct : ct_L := []
set_option maxRecDepth 100000 in
theorem c_Gr_hasGroup {l : Launch} {D : va_G} {kA : Nat → ClassId} : ct_ok l D kA GG y_Gr_hasGroup z_Gr_hasGroup e_Gr_hasGroup := chk_all_ok (FT := [(18, 3, 2)]) (PT := []) (CT := t_Gr_hasGroup_ct) (KT := []) (NT := []) (AN := n_Gr_hasGroup_an) (OT := []) 0 200 (List.forall_mem_nil _) (by decide +kernel) ⟨List.forall_mem_cons.mpr ⟨gf_Gr_18, List.forall_mem_nil _⟩, List.forall_mem_nil _, List.forall_mem_nil _, List.forall_mem_nil _, List.forall_mem_nil _⟩ (by decide +kernel)
def n_Gr_hasNode_an : List an_T := []
def t_Gr_hasNode_ct : ct_L := []
set_option maxRecDepth 100000 in
theorem c_Gr_hasNode {l : Launch} {D : va_G} {kA : Nat → ClassId} : ct_ok l D kA GG y_Gr_hasNode z_Gr_hasNode e_Gr_hasNode := chk_all_ok (FT := [(9, 3, 0)]) (PT := []) (CT := t_Gr_hasNode_ct) (KT := []) (NT := []) (AN := n_Gr_hasNode_an) (OT := []) 0 200 (List.forall_mem_nil _) (by decide +kernel) ⟨List.forall_mem_cons.mpr ⟨gf_Gr_9, List.forall_mem_nil _⟩, List.forall_mem_nil _, List.forall_mem_nil _, List.forall_mem_nil _, List.forall_mem_nil _⟩ (by decide +kernel)
def n_Gr_nextName_an : List an_T := []
def t_Gr_nextName_ct : ct_L := []
set_option maxRecDepth 100000 in
theorem c_Gr_nextName {l : Launch} {D : va_G} {kA : Nat → ClassId} : ct_ok l D kA GG y_Gr_nextName z_Gr_nextName e_Gr_nextName := chk_all_ok (FT := [(9, 3, 0)]) (PT := []) (CT := t_Gr_nextName_ct) (KT := []) (NT := []) (AN := n_Gr_nextName_an) (OT := []) 0 200 (List.forall_mem_nil _) (by decide +kernel) ⟨List.forall_mem_cons.mpr ⟨gf_Gr_9, List.forall_mem_nil _⟩, List.forall_mem_nil _, List.forall_mem_nil _, List.forall_mem_nil _, List.forall_mem_nil _⟩ (by decide +kernel)
def n_Gr_setLetters_an : List an_T := []
def t_Gr_setLetters_ct : ct_L := []
set_option maxRecDepth 100000 in
theorem c_Gr_setLetters {l : Launch} {D : va_G} {kA : Nat → ClassId} : ct_ok l D kA GG y_Gr_setLetters z_Gr_setLetters e_Gr_setLetters := chk_all_ok (FT := [(21, 3, 3)]) (PT := []) (CT := t_Gr_setLetters_ct) (KT := []) (NT := []) (AN := n_Gr_setLetters_an) (OT := []) 0 200 (List.forall_mem_nil _) (by decide +kernel) ⟨List.forall_mem_cons.mpr ⟨gf_Gr_21, List.forall_mem_nil _⟩, List.forall_mem_nil _, List.forall_mem_nil _, List.forall_mem_nil _, List.forall_mem_nil _⟩ (by decide +kernel)
def n_Gr_sizeOfGroup_an : List an_T := [(4, [(0, (2, 0, 0, [3])), (1, (0, 0, 7, [])), (2, (0, -2147483648, 2147483647, [])), (3, (0, 0, 24, []))], [], (0, 0), [(0, 0, 99996), (1, 3, 24), (0, 0, 100000), (0, 0, 0), (0, 0, 0)], [], [], [], 0, [], []), (23, [(0, (2, 0, 0, [3])), (1, (0, 0, 7, [])), (2, (0, -2147483648, 2147483647, [])), (3, (0, 0, 23, [])), (4, (0, -1, 7, [])), (5, (0, 0, 8, []))], [], (0, 0), [(0, 0, 99996), (1, 3, 24), (0, 0, 99977), (1, 5, 8), (0, 0, 100000)], [], [], [], 0, [], [])]
def t_Gr_sizeOfGroup_ct : ct_L := []
set_option maxRecDepth 100000 in
theorem c_Gr_sizeOfGroup {l : Launch} {D : va_G} {kA : Nat → ClassId} : ct_ok l D kA GG y_Gr_sizeOfGroup z_Gr_sizeOfGroup e_Gr_sizeOfGroup := chk_all_ok (FT := [(9, 3, 0), (29, 3, 5), (32, 3, 6), (47, 3, 11)]) (PT := []) (CT := t_Gr_sizeOfGroup_ct) (KT := []) (NT := []) (AN := n_Gr_sizeOfGroup_an) (OT := []) 5 232 (List.forall_mem_nil _) (by decide +kernel) ⟨List.forall_mem_cons.mpr ⟨gf_Gr_9, List.forall_mem_cons.mpr ⟨gf_Gr_29, List.forall_mem_cons.mpr ⟨gf_Gr_32, List.forall_mem_cons.mpr ⟨gf_Gr_47, List.forall_mem_nil _⟩⟩⟩⟩, List.forall_mem_nil _, List.forall_mem_nil _, List.forall_mem_nil _, List.forall_mem_nil _⟩ (by decide +kernel)
def n_Gr_tie_an : List an_T := []
def t_Gr_tie_ct : ct_L := []
set_option maxRecDepth 100000 in
theorem c_Gr_tie {l : Launch} {D : va_G} {kA : Nat → ClassId} : ct_ok l D kA GG y_Gr_tie z_Gr_tie e_Gr_tie := chk_all_ok (FT := [(35, 3, 7), (38, 3, 8), (56, 3, 14), (59, 3, 15)]) (PT := []) (CT := t_Gr_tie_ct) (KT := []) (NT := []) (AN := n_Gr_tie_an) (OT := []) 0 252 (List.forall_mem_nil _) (by decide +kernel) ⟨List.forall_mem_cons.mpr ⟨gf_Gr_35, List.forall_mem_cons.mpr ⟨gf_Gr_38, List.forall_mem_cons.mpr ⟨gf_Gr_56, List.forall_mem_cons.mpr ⟨gf_Gr_59, List.forall_mem_nil _⟩⟩⟩⟩, List.forall_mem_nil _, List.forall_mem_nil _, List.forall_mem_nil _, List.forall_mem_nil _⟩ (by decide +kernel)
def n_La_countCrossings_an : List an_T := [(4, [(0, (2, 0, 0, [4])), (1, (0, -2147483648, 2147483647, [])), (2, (0, 0, 24, []))], [], (0, 0), [(0, 0, 99996), (1, 2, 24), (0, 0, 100000), (0, 0, 0), (0, 0, 0), (0, 0, 0), (0, 0, 0)], [], [], [], 0, [], []), (21, [(0, (2, 0, 0, [4])), (1, (0, -2147483648, 2147483647, [])), (2, (0, 0, 23, [])), (3, (0, 0, 120, []))], [], (0, 0), [(0, 0, 99996), (1, 2, 24), (0, 0, 99979), (1, 3, 120), (0, 0, 100000), (0, 0, 0), (0, 0, 0)], [], [], [], 0, [], []), (38, [(0, (2, 0, 0, [4])), (1, (0, -2147483648, 2147483647, [])), (2, (0, 0, 23, [])), (3, (0, 0, 119, [])), (4, (0, 1, 120, []))], [], (0, 0), [(0, 0, 99996), (1, 2, 24), (0, 0, 99979), (1, 3, 120), (0, 0, 99962), (1, 4, 120), (0, 0, 100000)], [], [], [], 0, [], [])]
def t_La_countCrossings_ct : ct_L := []
set_option maxRecDepth 100000 in
theorem c_La_countCrossings {l : Launch} {D : va_G} {kA : Nat → ClassId} : ct_ok l D kA GG y_La_countCrossings z_La_countCrossings e_La_countCrossings := chk_all_ok (FT := [(22, 4, 2), (36, 4, 6), (39, 4, 7), (45, 4, 9), (60, 4, 14)]) (PT := []) (CT := t_La_countCrossings_ct) (KT := []) (NT := []) (AN := n_La_countCrossings_an) (OT := []) 7 380 (List.forall_mem_nil _) (by decide +kernel) ⟨List.forall_mem_cons.mpr ⟨gf_La_22, List.forall_mem_cons.mpr ⟨gf_La_36, List.forall_mem_cons.mpr ⟨gf_La_39, List.forall_mem_cons.mpr ⟨gf_La_45, List.forall_mem_cons.mpr ⟨gf_La_60, List.forall_mem_nil _⟩⟩⟩⟩⟩, List.forall_mem_nil _, List.forall_mem_nil _, List.forall_mem_nil _, List.forall_mem_nil _⟩ (by decide +kernel)
def n_La_lowerEnd_an : List an_T := []
def t_La_lowerEnd_ct : ct_L := []
set_option maxRecDepth 100000 in
theorem c_La_lowerEnd {l : Launch} {D : va_G} {kA : Nat → ClassId} : ct_ok l D kA GG y_La_lowerEnd z_La_lowerEnd e_La_lowerEnd := chk_all_ok (FT := [(18, 4, 1), (125, 2, 9), (131, 3, 8), (136, 3, 7)]) (PT := []) (CT := t_La_lowerEnd_ct) (KT := []) (NT := []) (AN := n_La_lowerEnd_an) (OT := []) 0 200 (List.forall_mem_nil _) (by decide +kernel) ⟨List.forall_mem_cons.mpr ⟨gf_La_18, List.forall_mem_cons.mpr ⟨gf_La_125, List.forall_mem_cons.mpr ⟨gf_La_131, List.forall_mem_cons.mpr ⟨gf_La_136, List.forall_mem_nil _⟩⟩⟩⟩, List.forall_mem_nil _, List.forall_mem_nil _, List.forall_mem_nil _, List.forall_mem_nil _⟩ (by decide +kernel)
def n_La_upperEnd_an : List an_T := []
def t_La_upperEnd_ct : ct_L := []
set_option maxRecDepth 100000 in
theorem c_La_upperEnd {l : Launch} {D : va_G} {kA : Nat → ClassId} : ct_ok l D kA GG y_La_upperEnd z_La_upperEnd e_La_upperEnd := chk_all_ok (FT := [(18, 4, 1), (125, 2, 9), (131, 3, 8), (136, 3, 7)]) (PT := []) (CT := t_La_upperEnd_ct) (KT := []) (NT := []) (AN := n_La_upperEnd_an) (OT := []) 0 200 (List.forall_mem_nil _) (by decide +kernel) ⟨List.forall_mem_cons.mpr ⟨gf_La_18, List.forall_mem_cons.mpr ⟨gf_La_125, List.forall_mem_cons.mpr ⟨gf_La_131, List.forall_mem_cons.mpr ⟨gf_La_136, List.forall_mem_nil _⟩⟩⟩⟩, List.forall_mem_nil _, List.forall_mem_nil _, List.forall_mem_nil _, List.forall_mem_nil _⟩ (by decide +kernel)
def n_Ne_edgeBetween_an : List an_T := []
def t_Ne_edgeBetween_ct : ct_L := []
set_option maxRecDepth 100000 in
theorem c_Ne_edgeBetween {l : Launch} {D : va_G} {kA : Nat → ClassId} : ct_ok l D kA GG y_Ne_edgeBetween z_Ne_edgeBetween e_Ne_edgeBetween := chk_all_ok (FT := [(43, 5, 10)]) (PT := []) (CT := t_Ne_edgeBetween_ct) (KT := []) (NT := []) (AN := n_Ne_edgeBetween_an) (OT := []) 0 200 (List.forall_mem_nil _) (by decide +kernel) ⟨List.forall_mem_cons.mpr ⟨gf_Ne_43, List.forall_mem_nil _⟩, List.forall_mem_nil _, List.forall_mem_nil _, List.forall_mem_nil _, List.forall_mem_nil _⟩ (by decide +kernel)
def n_Ne_forget_an : List an_T := []
def t_Ne_forget_ct : ct_L := []
set_option maxRecDepth 100000 in
theorem c_Ne_forget {l : Launch} {D : va_G} {kA : Nat → ClassId} : ct_ok l D kA GG y_Ne_forget z_Ne_forget e_Ne_forget := chk_all_ok (FT := []) (PT := [(9, 5, 0, .int), (15, 5, 1, .int), (18, 5, 2, .int), (21, 5, 3, .int)]) (CT := t_Ne_forget_ct) (KT := []) (NT := []) (AN := n_Ne_forget_an) (OT := []) 0 200 (List.forall_mem_nil _) (by decide +kernel) ⟨List.forall_mem_nil _, List.forall_mem_cons.mpr ⟨pf_Ne_9, List.forall_mem_cons.mpr ⟨pf_Ne_15, List.forall_mem_cons.mpr ⟨pf_Ne_18, List.forall_mem_cons.mpr ⟨pf_Ne_21, List.forall_mem_nil _⟩⟩⟩⟩, List.forall_mem_nil _, List.forall_mem_nil _, List.forall_mem_nil _⟩ (by decide +kernel)
def n_Ne_join_an : List an_T := []
def t_Ne_join_ct : ct_L := []
set_option maxRecDepth 100000 in
theorem c_Ne_join {l : Launch} {D : va_G} {kA : Nat → ClassId} : ct_ok l D kA GG y_Ne_join z_Ne_join e_Ne_join := chk_all_ok (FT := [(31, 5, 6), (34, 5, 7), (37, 5, 8), (40, 5, 9), (43, 5, 10)]) (PT := [(31, 5, 6, .int)]) (CT := t_Ne_join_ct) (KT := []) (NT := []) (AN := n_Ne_join_an) (OT := []) 0 260 (List.forall_mem_nil _) (by decide +kernel) ⟨List.forall_mem_cons.mpr ⟨gf_Ne_31, List.forall_mem_cons.mpr ⟨gf_Ne_34, List.forall_mem_cons.mpr ⟨gf_Ne_37, List.forall_mem_cons.mpr ⟨gf_Ne_40, List.forall_mem_cons.mpr ⟨gf_Ne_43, List.forall_mem_nil _⟩⟩⟩⟩⟩, List.forall_mem_cons.mpr ⟨pf_Ne_31, List.forall_mem_nil _⟩, List.forall_mem_nil _, List.forall_mem_nil _, List.forall_mem_nil _⟩ (by decide +kernel)
def n_Pl_edgeOfLevel_an : List an_T := [(7, [(0, (2, 0, 0, [6])), (1, (0, 0, 16777215, [])), (2, (0, 0, 23, [])), (3, (0, 0, 1, [])), (4, (0, -2147483648, 2147483647, [])), (5, (0, 0, 24, []))], [], (0, 0), [(0, 0, 99993), (1, 5, 24), (0, 0, 100000)], [], [((0, 0), (2, 0, 0, [3])), ((0, 1), (2, 0, 0, [0]))], [], 0, [], [])]
def t_Pl_edgeOfLevel_ct : ct_L := []
set_option maxRecDepth 100000 in
theorem c_Pl_edgeOfLevel {l : Launch} {D : va_G} {kA : Nat → ClassId} : ct_ok l D kA GG y_Pl_edgeOfLevel z_Pl_edgeOfLevel e_Pl_edgeOfLevel := chk_all_ok (FT := [(9, 6, 0), (15, 6, 1), (26, 6, 4), (74, 3, 0), (127, 0, 2)]) (PT := []) (CT := t_Pl_edgeOfLevel_ct) (KT := [(0, 149, .int (Int32.ofInt (-2147483648)), (0, -2147483648, -2147483648, []))]) (NT := []) (AN := n_Pl_edgeOfLevel_an) (OT := []) 3 244 (List.forall_mem_nil _) (by decide +kernel) ⟨List.forall_mem_cons.mpr ⟨gf_Pl_9, List.forall_mem_cons.mpr ⟨gf_Pl_15, List.forall_mem_cons.mpr ⟨gf_Pl_26, List.forall_mem_cons.mpr ⟨gf_Pl_74, List.forall_mem_cons.mpr ⟨gf_Pl_127, List.forall_mem_nil _⟩⟩⟩⟩⟩, List.forall_mem_nil _, List.forall_mem_nil _, List.forall_mem_cons.mpr ⟨kx_Pl_0_149, List.forall_mem_nil _⟩, List.forall_mem_nil _⟩ (by decide +kernel)
def n_Pl_leastOfPart_an : List an_T := [(2, [(0, (2, 0, 0, [6])), (1, (2, 0, 0, [2])), (2, (0, 0, 23, [])), (3, (0, 0, 24, []))], [], (0, 0), [(0, 0, 99998), (1, 3, 24), (0, 0, 100000)], [], [((0, 0), (2, 0, 0, [3]))], [], 0, [], [])]
def t_Pl_leastOfPart_ct : ct_L := []
set_option maxRecDepth 100000 in
theorem c_Pl_leastOfPart {l : Launch} {D : va_G} {kA : Nat → ClassId} : ct_ok l D kA GG y_Pl_leastOfPart z_Pl_leastOfPart e_Pl_leastOfPart := chk_all_ok (FT := [(9, 6, 0), (74, 3, 0), (109, 2, 4)]) (PT := []) (CT := t_Pl_leastOfPart_ct) (KT := []) (NT := []) (AN := n_Pl_leastOfPart_an) (OT := []) 3 200 (List.forall_mem_nil _) (by decide +kernel) ⟨List.forall_mem_cons.mpr ⟨gf_Pl_9, List.forall_mem_cons.mpr ⟨gf_Pl_74, List.forall_mem_cons.mpr ⟨gf_Pl_109, List.forall_mem_nil _⟩⟩⟩, List.forall_mem_nil _, List.forall_mem_nil _, List.forall_mem_nil _, List.forall_mem_nil _⟩ (by decide +kernel)
def n_Pl_root_an : List an_T := [(6, [(0, (1, -9223372036854775808, 9223372036854775807, [])), (2, (1, -9223372036854775808, 9223372036854775807, [])), (4, (0, -1, 20, []))], [], (0, 0), [(0, 0, 99994), (2, 2, -1), (0, 0, 100000)], [], [], [], 0, [], [])]
def t_Pl_root_ct : ct_L := []
set_option maxRecDepth 100000 in
theorem c_Pl_root {l : Launch} {D : va_G} {kA : Nat → ClassId} : ct_ok l D kA GG y_Pl_root z_Pl_root e_Pl_root := chk_all_ok (FT := []) (PT := []) (CT := t_Pl_root_ct) (KT := []) (NT := []) (AN := n_Pl_root_an) (OT := []) 3 200 (List.forall_mem_nil _) (by decide +kernel) ⟨List.forall_mem_nil _, List.forall_mem_nil _, List.forall_mem_nil _, List.forall_mem_nil _, List.forall_mem_nil _⟩ (by decide +kernel)
def n_Pl_setArea_an : List an_T := []
def t_Pl_setArea_ct : ct_L := []
set_option maxRecDepth 100000 in
theorem c_Pl_setArea {l : Launch} {D : va_G} {kA : Nat → ClassId} : ct_ok l D kA GG y_Pl_setArea z_Pl_setArea e_Pl_setArea := chk_all_ok (FT := [(15, 6, 1), (153, 0, 13)]) (PT := []) (CT := t_Pl_setArea_ct) (KT := []) (NT := []) (AN := n_Pl_setArea_an) (OT := []) 0 200 (List.forall_mem_nil _) (by decide +kernel) ⟨List.forall_mem_cons.mpr ⟨gf_Pl_15, List.forall_mem_cons.mpr ⟨gf_Pl_153, List.forall_mem_nil _⟩⟩, List.forall_mem_nil _, List.forall_mem_nil _, List.forall_mem_nil _, List.forall_mem_nil _⟩ (by decide +kernel)
def n_Pn_firstLongFace_an : List an_T := [(2, [(0, (2, 0, 0, [7])), (1, (0, 0, 144, []))], [], (0, 0), [(0, 0, 99998), (1, 1, 144), (0, 0, 100000)], [], [], [], 0, [], [])]
def t_Pn_firstLongFace_ct : ct_L := []
set_option maxRecDepth 100000 in
theorem c_Pn_firstLongFace {l : Launch} {D : va_G} {kA : Nat → ClassId} : ct_ok l D kA GG y_Pn_firstLongFace z_Pn_firstLongFace e_Pn_firstLongFace := chk_all_ok (FT := [(12, 7, 0), (122, 5, 13), (125, 5, 14)]) (PT := []) (CT := t_Pn_firstLongFace_ct) (KT := []) (NT := []) (AN := n_Pn_firstLongFace_an) (OT := []) 3 200 (List.forall_mem_nil _) (by decide +kernel) ⟨List.forall_mem_cons.mpr ⟨gf_Pn_12, List.forall_mem_cons.mpr ⟨gf_Pn_122, List.forall_mem_cons.mpr ⟨gf_Pn_125, List.forall_mem_nil _⟩⟩⟩, List.forall_mem_nil _, List.forall_mem_nil _, List.forall_mem_nil _, List.forall_mem_nil _⟩ (by decide +kernel)
def n_Pn_shiftUnder_an : List an_T := [(3, [(0, (2, 0, 0, [7])), (1, (2, 0, 0, [0])), (2, (0, 0, 23, [])), (3, (0, 1, 2, [])), (4, (0, 0, 24, []))], [], (0, 0), [(0, 0, 99997), (1, 4, 24), (0, 0, 100000)], [], [], [], 0, [], [])]
def t_Pn_shiftUnder_ct : ct_L := []
set_option maxRecDepth 100000 in
theorem c_Pn_shiftUnder {l : Launch} {D : va_G} {kA : Nat → ClassId} : ct_ok l D kA GG y_Pn_shiftUnder z_Pn_shiftUnder e_Pn_shiftUnder := chk_all_ok (FT := [(12, 7, 0), (29, 7, 4), (86, 5, 5), (177, 0, 2)]) (PT := []) (CT := t_Pn_shiftUnder_ct) (KT := []) (NT := []) (AN := n_Pn_shiftUnder_an) (OT := []) 3 200 (List.forall_mem_nil _) (by decide +kernel) ⟨List.forall_mem_cons.mpr ⟨gf_Pn_12, List.forall_mem_cons.mpr ⟨gf_Pn_29, List.forall_mem_cons.mpr ⟨gf_Pn_86, List.forall_mem_cons.mpr ⟨gf_Pn_177, List.forall_mem_nil _⟩⟩⟩⟩, List.forall_mem_nil _, List.forall_mem_nil _, List.forall_mem_nil _, List.forall_mem_nil _⟩ (by decide +kernel)
def n_Re_fail_an : List an_T := []
def t_Re_fail_ct : ct_L := []
set_option maxRecDepth 100000 in
theorem c_Re_fail {l : Launch} {D : va_G} {kA : Nat → ClassId} : ct_ok l D kA GG y_Re_fail z_Re_fail e_Re_fail := chk_all_ok (FT := [(41, 8, 8)]) (PT := [(19, 8, 2, .int), (22, 8, 3, .int)]) (CT := t_Re_fail_ct) (KT := []) (NT := []) (AN := n_Re_fail_an) (OT := []) 0 200 (List.forall_mem_nil _) (by decide +kernel) ⟨List.forall_mem_cons.mpr ⟨gf_Re_41, List.forall_mem_nil _⟩, List.forall_mem_cons.mpr ⟨pf_Re_19, List.forall_mem_cons.mpr ⟨pf_Re_22, List.forall_mem_nil _⟩⟩, List.forall_mem_nil _, List.forall_mem_nil _, List.forall_mem_nil _⟩ (by decide +kernel)
def n_Re_isDigit_an : List an_T := []
def t_Re_isDigit_ct : ct_L := []
set_option maxRecDepth 100000 in
theorem c_Re_isDigit {l : Launch} {D : va_G} {kA : Nat → ClassId} : ct_ok l D kA GG y_Re_isDigit z_Re_isDigit e_Re_isDigit := chk_all_ok (FT := []) (PT := []) (CT := t_Re_isDigit_ct) (KT := []) (NT := []) (AN := n_Re_isDigit_an) (OT := []) 0 200 (List.forall_mem_nil _) (by decide +kernel) ⟨List.forall_mem_nil _, List.forall_mem_nil _, List.forall_mem_nil _, List.forall_mem_nil _, List.forall_mem_nil _⟩ (by decide +kernel)
def n_Re_isLetter_an : List an_T := []
def t_Re_isLetter_ct : ct_L := []
set_option maxRecDepth 100000 in
theorem c_Re_isLetter {l : Launch} {D : va_G} {kA : Nat → ClassId} : ct_ok l D kA GG y_Re_isLetter z_Re_isLetter e_Re_isLetter := chk_all_ok (FT := []) (PT := []) (CT := t_Re_isLetter_ct) (KT := []) (NT := []) (AN := n_Re_isLetter_an) (OT := []) 0 200 (List.forall_mem_nil _) (by decide +kernel) ⟨List.forall_mem_nil _, List.forall_mem_nil _, List.forall_mem_nil _, List.forall_mem_nil _, List.forall_mem_nil _⟩ (by decide +kernel)
def n_Re_isSign_an : List an_T := []
def t_Re_isSign_ct : ct_L := []
set_option maxRecDepth 100000 in
theorem c_Re_isSign {l : Launch} {D : va_G} {kA : Nat → ClassId} : ct_ok l D kA GG y_Re_isSign z_Re_isSign e_Re_isSign := chk_all_ok (FT := []) (PT := []) (CT := t_Re_isSign_ct) (KT := []) (NT := []) (AN := n_Re_isSign_an) (OT := []) 0 200 (List.forall_mem_nil _) (by decide +kernel) ⟨List.forall_mem_nil _, List.forall_mem_nil _, List.forall_mem_nil _, List.forall_mem_nil _, List.forall_mem_nil _⟩ (by decide +kernel)
def n_Ro_enter_an : List an_T := []
def t_Ro_enter_ct : ct_L := []
set_option maxRecDepth 100000 in
theorem c_Ro_enter {l : Launch} {D : va_G} {kA : Nat → ClassId} : ct_ok l D kA GG y_Ro_enter z_Ro_enter e_Ro_enter := chk_all_ok (FT := [(45, 9, 10), (49, 9, 11), (53, 9, 12), (56, 9, 13), (59, 9, 14)]) (PT := [(59, 9, 14, .int)]) (CT := t_Ro_enter_ct) (KT := [(0, 52, .int (48004), (0, 48004, 48004, []))]) (NT := []) (AN := n_Ro_enter_an) (OT := []) 0 200 (List.forall_mem_nil _) (by decide +kernel) ⟨List.forall_mem_cons.mpr ⟨gf_Ro_45, List.forall_mem_cons.mpr ⟨gf_Ro_49, List.forall_mem_cons.mpr ⟨gf_Ro_53, List.forall_mem_cons.mpr ⟨gf_Ro_56, List.forall_mem_cons.mpr ⟨gf_Ro_59, List.forall_mem_nil _⟩⟩⟩⟩⟩, List.forall_mem_cons.mpr ⟨pf_Ro_59, List.forall_mem_nil _⟩, List.forall_mem_nil _, List.forall_mem_cons.mpr ⟨kx_Ro_0_52, List.forall_mem_nil _⟩, List.forall_mem_nil _⟩ (by decide +kernel)
def n_Ro_pointOf_an : List an_T := []
def t_Ro_pointOf_ct : ct_L := []
set_option maxRecDepth 100000 in
theorem c_Ro_pointOf {l : Launch} {D : va_G} {kA : Nat → ClassId} : ct_ok l D kA GG y_Ro_pointOf z_Ro_pointOf e_Ro_pointOf := chk_all_ok (FT := [(15, 9, 1), (19, 9, 2), (23, 9, 3), (26, 9, 4), (111, 0, 2), (126, 0, 3)]) (PT := []) (CT := t_Ro_pointOf_ct) (KT := []) (NT := []) (AN := n_Ro_pointOf_an) (OT := []) 0 200 (List.forall_mem_nil _) (by decide +kernel) ⟨List.forall_mem_cons.mpr ⟨gf_Ro_15, List.forall_mem_cons.mpr ⟨gf_Ro_19, List.forall_mem_cons.mpr ⟨gf_Ro_23, List.forall_mem_cons.mpr ⟨gf_Ro_26, List.forall_mem_cons.mpr ⟨gf_Ro_111, List.forall_mem_cons.mpr ⟨gf_Ro_126, List.forall_mem_nil _⟩⟩⟩⟩⟩⟩, List.forall_mem_nil _, List.forall_mem_nil _, List.forall_mem_nil _, List.forall_mem_nil _⟩ (by decide +kernel)
def n_St_addArc_an : List an_T := []
def t_St_addArc_ct : ct_L := []
set_option maxRecDepth 100000 in
theorem c_St_addArc {l : Launch} {D : va_G} {kA : Nat → ClassId} : ct_ok l D kA GG y_St_addArc z_St_addArc e_St_addArc := chk_all_ok (FT := [(15, 10, 1), (18, 10, 2), (22, 10, 3), (25, 10, 4), (28, 10, 5)]) (PT := [(15, 10, 1, .int)]) (CT := t_St_addArc_ct) (KT := []) (NT := []) (AN := n_St_addArc_an) (OT := []) 0 200 (List.forall_mem_nil _) (by decide +kernel) ⟨List.forall_mem_cons.mpr ⟨gf_St_15, List.forall_mem_cons.mpr ⟨gf_St_18, List.forall_mem_cons.mpr ⟨gf_St_22, List.forall_mem_cons.mpr ⟨gf_St_25, List.forall_mem_cons.mpr ⟨gf_St_28, List.forall_mem_nil _⟩⟩⟩⟩⟩, List.forall_mem_cons.mpr ⟨pf_St_15, List.forall_mem_nil _⟩, List.forall_mem_nil _, List.forall_mem_nil _, List.forall_mem_nil _⟩ (by decide +kernel)
def n_St_begin_an : List an_T := []
def t_St_begin_ct : ct_L := []
set_option maxRecDepth 100000 in
theorem c_St_begin {l : Launch} {D : va_G} {kA : Nat → ClassId} : ct_ok l D kA GG y_St_begin z_St_begin e_St_begin := chk_all_ok (FT := []) (PT := [(9, 10, 0, .int), (15, 10, 1, .int)]) (CT := t_St_begin_ct) (KT := []) (NT := []) (AN := n_St_begin_an) (OT := []) 0 200 (List.forall_mem_nil _) (by decide +kernel) ⟨List.forall_mem_nil _, List.forall_mem_cons.mpr ⟨pf_St_9, List.forall_mem_cons.mpr ⟨pf_St_15, List.forall_mem_nil _⟩⟩, List.forall_mem_nil _, List.forall_mem_nil _, List.forall_mem_nil _⟩ (by decide +kernel)
def n_St_raise_an : List an_T := [(4, [(0, (2, 0, 0, [10])), (1, (0, 0, 1, [])), (2, (0, 0, 384, []))], [], (0, 0), [(0, 0, 99996), (1, 2, 384), (0, 0, 100000)], [], [], [], 0, [], [])]
def t_St_raise_ct : ct_L := []
set_option maxRecDepth 100000 in
theorem c_St_raise {l : Launch} {D : va_G} {kA : Nat → ClassId} : ct_ok l D kA GG y_St_raise z_St_raise e_St_raise := chk_all_ok (FT := [(15, 10, 1), (18, 10, 2), (22, 10, 3), (25, 10, 4), (28, 10, 5), (31, 10, 6), (34, 10, 7)]) (PT := []) (CT := t_St_raise_ct) (KT := []) (NT := []) (AN := n_St_raise_an) (OT := []) 3 280 (List.forall_mem_nil _) (by decide +kernel) ⟨List.forall_mem_cons.mpr ⟨gf_St_15, List.forall_mem_cons.mpr ⟨gf_St_18, List.forall_mem_cons.mpr ⟨gf_St_22, List.forall_mem_cons.mpr ⟨gf_St_25, List.forall_mem_cons.mpr ⟨gf_St_28, List.forall_mem_cons.mpr ⟨gf_St_31, List.forall_mem_cons.mpr ⟨gf_St_34, List.forall_mem_nil _⟩⟩⟩⟩⟩⟩⟩, List.forall_mem_nil _, List.forall_mem_nil _, List.forall_mem_nil _, List.forall_mem_nil _⟩ (by decide +kernel)
def n_Sy_emit_an : List an_T := []
def t_Sy_emit_ct : ct_L := []
set_option maxRecDepth 100000 in
theorem c_Sy_emit {l : Launch} {D : va_G} {kA : Nat → ClassId} : ct_ok l D kA GG y_Sy_emit z_Sy_emit e_Sy_emit := chk_all_ok (FT := [(46, 11, 10), (50, 11, 11)]) (PT := [(50, 11, 11, .int)]) (CT := t_Sy_emit_ct) (KT := []) (NT := []) (AN := n_Sy_emit_an) (OT := []) 0 200 (List.forall_mem_nil _) (by decide +kernel) ⟨List.forall_mem_cons.mpr ⟨gf_Sy_46, List.forall_mem_cons.mpr ⟨gf_Sy_50, List.forall_mem_nil _⟩⟩, List.forall_mem_cons.mpr ⟨pf_Sy_50, List.forall_mem_nil _⟩, List.forall_mem_nil _, List.forall_mem_nil _, List.forall_mem_nil _⟩ (by decide +kernel)
def n_Sy_fail_an : List an_T := []
def t_Sy_fail_ct : ct_L := []
set_option maxRecDepth 100000 in
theorem c_Sy_fail {l : Launch} {D : va_G} {kA : Nat → ClassId} : ct_ok l D kA GG y_Sy_fail z_Sy_fail e_Sy_fail := chk_all_ok (FT := [(34, 11, 7)]) (PT := [(15, 11, 1, .int), (18, 11, 2, .int)]) (CT := t_Sy_fail_ct) (KT := []) (NT := []) (AN := n_Sy_fail_an) (OT := []) 0 200 (List.forall_mem_nil _) (by decide +kernel) ⟨List.forall_mem_cons.mpr ⟨gf_Sy_34, List.forall_mem_nil _⟩, List.forall_mem_cons.mpr ⟨pf_Sy_15, List.forall_mem_cons.mpr ⟨pf_Sy_18, List.forall_mem_nil _⟩⟩, List.forall_mem_nil _, List.forall_mem_nil _, List.forall_mem_nil _⟩ (by decide +kernel)
def n_Sy_isSmall_an : List an_T := []
def t_Sy_isSmall_ct : ct_L := []
set_option maxRecDepth 100000 in
theorem c_Sy_isSmall {l : Launch} {D : va_G} {kA : Nat → ClassId} : ct_ok l D kA GG y_Sy_isSmall z_Sy_isSmall e_Sy_isSmall := chk_all_ok (FT := []) (PT := []) (CT := t_Sy_isSmall_ct) (KT := []) (NT := []) (AN := n_Sy_isSmall_an) (OT := []) 0 200 (List.forall_mem_nil _) (by decide +kernel) ⟨List.forall_mem_nil _, List.forall_mem_nil _, List.forall_mem_nil _, List.forall_mem_nil _, List.forall_mem_nil _⟩ (by decide +kernel)
def n_Sy_pop_an : List an_T := []
def t_Sy_pop_ct : ct_L := []
set_option maxRecDepth 100000 in
theorem c_Sy_pop {l : Launch} {D : va_G} {kA : Nat → ClassId} : ct_ok l D kA GG y_Sy_pop z_Sy_pop e_Sy_pop := chk_all_ok (FT := [(59, 11, 14), (63, 11, 15)]) (PT := [(63, 11, 15, .int)]) (CT := t_Sy_pop_ct) (KT := []) (NT := []) (AN := n_Sy_pop_an) (OT := []) 0 200 (List.forall_mem_nil _) (by decide +kernel) ⟨List.forall_mem_cons.mpr ⟨gf_Sy_59, List.forall_mem_cons.mpr ⟨gf_Sy_63, List.forall_mem_nil _⟩⟩, List.forall_mem_cons.mpr ⟨pf_Sy_63, List.forall_mem_nil _⟩, List.forall_mem_nil _, List.forall_mem_nil _, List.forall_mem_nil _⟩ (by decide +kernel)
def n_Sy_push_an : List an_T := []
def t_Sy_push_ct : ct_L := []
set_option maxRecDepth 100000 in
theorem c_Sy_push {l : Launch} {D : va_G} {kA : Nat → ClassId} : ct_ok l D kA GG y_Sy_push z_Sy_push e_Sy_push := chk_all_ok (FT := [(59, 11, 14), (63, 11, 15)]) (PT := [(63, 11, 15, .int)]) (CT := t_Sy_push_ct) (KT := []) (NT := []) (AN := n_Sy_push_an) (OT := []) 0 200 (List.forall_mem_nil _) (by decide +kernel) ⟨List.forall_mem_cons.mpr ⟨gf_Sy_59, List.forall_mem_cons.mpr ⟨gf_Sy_63, List.forall_mem_nil _⟩⟩, List.forall_mem_cons.mpr ⟨pf_Sy_63, List.forall_mem_nil _⟩, List.forall_mem_nil _, List.forall_mem_nil _, List.forall_mem_nil _⟩ (by decide +kernel)
def n_Mo_across1_an : List an_T := []
def t_Mo_across1_ct : ct_L := []
set_option maxRecDepth 100000 in
theorem c_Mo_across1 {l : Launch} {D : va_G} {kA : Nat → ClassId} : ct_ok l D kA GG y_Mo_across1 z_Mo_across1 e_Mo_across1 := chk_all_ok (FT := [(57, 13, 33), (60, 13, 34)]) (PT := []) (CT := t_Mo_across1_ct) (KT := []) (NT := []) (AN := n_Mo_across1_an) (OT := []) 0 200 (List.forall_mem_nil _) (by decide +kernel) ⟨List.forall_mem_cons.mpr ⟨gf_Mo_57, List.forall_mem_cons.mpr ⟨gf_Mo_60, List.forall_mem_nil _⟩⟩, List.forall_mem_nil _, List.forall_mem_nil _, List.forall_mem_nil _, List.forall_mem_nil _⟩ (by decide +kernel)
def n_Mo_at1_an : List an_T := []
def t_Mo_at1_ct : ct_L := []
set_option maxRecDepth 100000 in
theorem c_Mo_at1 {l : Launch} {D : va_G} {kA : Nat → ClassId} : ct_ok l D kA GG y_Mo_at1 z_Mo_at1 e_Mo_at1 := chk_all_ok (FT := [(57, 13, 33), (60, 13, 34), (63, 13, 35)]) (PT := []) (CT := t_Mo_at1_ct) (KT := []) (NT := []) (AN := n_Mo_at1_an) (OT := []) 0 200 (List.forall_mem_nil _) (by decide +kernel) ⟨List.forall_mem_cons.mpr ⟨gf_Mo_57, List.forall_mem_cons.mpr ⟨gf_Mo_60, List.forall_mem_cons.mpr ⟨gf_Mo_63, List.forall_mem_nil _⟩⟩⟩, List.forall_mem_nil _, List.forall_mem_nil _, List.forall_mem_nil _, List.forall_mem_nil _⟩ (by decide +kernel)
def n_Mo_behind_an : List an_T := [(2, [(0, (2, 0, 0, [150])), (1, (0, 0, 24, [])), (2, (0, 0, 24, [])), (3, (0, 0, 120, []))], [], (0, 0), [(0, 0, 99998), (1, 3, 120), (0, 0, 100000), (0, 0, 0), (0, 0, 0)], [], [], [], 0, [], []), (21, [(0, (2, 0, 0, [150])), (1, (0, 0, 24, [])), (2, (0, 0, 24, [])), (3, (0, 0, 119, [])), (4, (0, 0, 60, [])), (5, (0, 0, 60, []))], [], (0, 0), [(0, 0, 99998), (1, 3, 120), (0, 0, 99979), (1, 5, 60), (0, 0, 100000)], [], [], [], 0, [], [])]
def t_Mo_behind_ct : ct_L := []
set_option maxRecDepth 100000 in
theorem c_Mo_behind {l : Launch} {D : va_G} {kA : Nat → ClassId} : ct_ok l D kA GG y_Mo_behind z_Mo_behind e_Mo_behind := chk_all_ok (FT := [(75, 13, 40), (78, 13, 41), (612, 13, 39)]) (PT := []) (CT := t_Mo_behind_ct) (KT := []) (NT := []) (AN := n_Mo_behind_an) (OT := []) 5 244 (List.forall_mem_nil _) (by decide +kernel) ⟨List.forall_mem_cons.mpr ⟨gf_Mo_75, List.forall_mem_cons.mpr ⟨gf_Mo_78, List.forall_mem_cons.mpr ⟨gf_Mo_612, List.forall_mem_nil _⟩⟩⟩, List.forall_mem_nil _, List.forall_mem_nil _, List.forall_mem_nil _, List.forall_mem_nil _⟩ (by decide +kernel)
def n_Mo_bounded_an : List an_T := []
def t_Mo_bounded_ct : ct_L := []
set_option maxRecDepth 100000 in
theorem c_Mo_bounded {l : Launch} {D : va_G} {kA : Nat → ClassId} : ct_ok l D kA GG y_Mo_bounded z_Mo_bounded e_Mo_bounded := chk_all_ok (FT := []) (PT := []) (CT := t_Mo_bounded_ct) (KT := []) (NT := []) (AN := n_Mo_bounded_an) (OT := []) 0 200 (List.forall_mem_nil _) (by decide +kernel) ⟨List.forall_mem_nil _, List.forall_mem_nil _, List.forall_mem_nil _, List.forall_mem_nil _, List.forall_mem_nil _⟩ (by decide +kernel)
def n_Mo_byteAt_an : List an_T := []
def t_Mo_byteAt_ct : ct_L := []
set_option maxRecDepth 100000 in
theorem c_Mo_byteAt {l : Launch} {D : va_G} {kA : Nat → ClassId} : ct_ok l D kA GG y_Mo_byteAt z_Mo_byteAt e_Mo_byteAt := chk_all_ok (FT := [(9, 13, 1), (419, 13, 10)]) (PT := []) (CT := t_Mo_byteAt_ct) (KT := []) (NT := []) (AN := n_Mo_byteAt_an) (OT := []) 0 200 (List.forall_mem_nil _) (by decide +kernel) ⟨List.forall_mem_cons.mpr ⟨gf_Mo_9, List.forall_mem_cons.mpr ⟨gf_Mo_419, List.forall_mem_nil _⟩⟩, List.forall_mem_nil _, List.forall_mem_nil _, List.forall_mem_nil _, List.forall_mem_nil _⟩ (by decide +kernel)
def n_Mo_changed_an : List an_T := [(9, [(0, (2, 0, 0, [150])), (1, (0, 0, 3, [])), (2, (0, 0, 216, []))], [], (0, 0), [(0, 0, 99991), (1, 2, 216), (0, 0, 100000)], [], [], [], 0, [], [])]
def t_Mo_changed_ct : ct_L := []
set_option maxRecDepth 100000 in
theorem c_Mo_changed {l : Launch} {D : va_G} {kA : Nat → ClassId} : ct_ok l D kA GG y_Mo_changed z_Mo_changed e_Mo_changed := chk_all_ok (FT := [(120, 13, 61), (156, 13, 73)]) (PT := []) (CT := t_Mo_changed_ct) (KT := []) (NT := []) (AN := n_Mo_changed_an) (OT := []) 3 200 (List.forall_mem_nil _) (by decide +kernel) ⟨List.forall_mem_cons.mpr ⟨gf_Mo_120, List.forall_mem_cons.mpr ⟨gf_Mo_156, List.forall_mem_nil _⟩⟩, List.forall_mem_nil _, List.forall_mem_nil _, List.forall_mem_nil _, List.forall_mem_nil _⟩ (by decide +kernel)
def n_Mo_clear_an : List an_T := [(2, [(0, (2, 0, 0, [150])), (1, (5, 0, 66297, [539])), (2, (0, 0, 539, []))], [], (0, 0), [(0, 0, 99998), (1, 2, 539), (0, 0, 100000)], [], [], [], 0, [], [])]
def t_Mo_clear_ct : ct_L := []
set_option maxRecDepth 100000 in
theorem c_Mo_clear {l : Launch} {D : va_G} {kA : Nat → ClassId} : ct_ok l D kA GG y_Mo_clear z_Mo_clear e_Mo_clear := chk_all_ok (FT := [(16, 13, 2)]) (PT := []) (CT := t_Mo_clear_ct) (KT := []) (NT := []) (AN := n_Mo_clear_an) (OT := []) 3 200 (List.forall_mem_nil _) (by decide +kernel) ⟨List.forall_mem_cons.mpr ⟨gf_Mo_16, List.forall_mem_nil _⟩, List.forall_mem_nil _, List.forall_mem_nil _, List.forall_mem_nil _, List.forall_mem_nil _⟩ (by decide +kernel)
