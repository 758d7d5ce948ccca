abbrev b_Ho_dot : ByteArray := prog_1_method_29_code
def y_Ho_dot : MethodName := ⟨"DrawingHouse", "dot", "(II)I"⟩
abbrev z_Ho_dot : List Cond := Cond.code y_Ho_dot b_Ho_dot 3 (some .int) :: lw_g
def e_Ho_dot : en_T := ([(2, 0, 0, [12]), (0, -2147483648, 2147483647, []), (0, -2147483648, 2147483647, [])], some (0, -1, 256, []), true, 1, 0, 0, [([(2, 0, 0, [12]), (0, -2147483648, -1, []), (0, -2147483648, 2147483647, []), (0, -1, -1, [])], [], [3], [], [], []), ([(2, 0, 0, [12]), (0, 0, 2147483647, []), (0, -2147483648, 2147483647, []), (0, -1, -1, [])], [], [3], [], [], []), ([(2, 0, 0, [12]), (0, 0, 63, []), (0, -2147483648, -1, []), (0, -1, -1, [])], [], [3], [], [], []), ([(2, 0, 0, [12]), (0, 0, 63, []), (0, 0, 63, []), (0, 0, 256, [])], [], [3], [], [], []), ([(2, 0, 0, [12]), (0, 0, 63, []), (0, 0, 2147483647, []), (0, -1, -1, [])], [], [3], [], [], [])], [], [])
def n_Ho_dot_an : List an_T := []
def t_Ho_dot_ct : ct_L := []
set_option maxRecDepth 100000 in
theorem c_Ho_dot {l : Launch} {D : va_G} {kA : Nat → ClassId} : ct_ok l D kA GG y_Ho_dot z_Ho_dot e_Ho_dot := chk_all_ok (FT := [(73, 12, 13), (76, 12, 14), (79, 12, 15)]) (PT := []) (CT := t_Ho_dot_ct) (KT := []) (AN := n_Ho_dot_an) 0 200 (by decide +kernel) ⟨List.forall_mem_cons.mpr ⟨gf_Ho_73, List.forall_mem_cons.mpr ⟨gf_Ho_76, List.forall_mem_cons.mpr ⟨gf_Ho_79, List.forall_mem_nil _⟩⟩⟩, List.forall_mem_nil _, List.forall_mem_nil _, List.forall_mem_nil _⟩ (by decide +kernel)
abbrev b_Ho_fault : ByteArray := prog_1_method_4_code
def y_Ho_fault : MethodName := ⟨"DrawingHouse", "fault", "(I)I"⟩
abbrev z_Ho_fault : List Cond := Cond.code y_Ho_fault b_Ho_fault 2 (some .int) :: lw_g
def e_Ho_fault : en_T := ([(2, 0, 0, [12]), (0, -2147483648, 2147483647, [])], some (0, -1, 2147483647, []), true, 1, 0, 0, [([(2, 0, 0, [12]), (0, -2147483648, 2147483647, []), (0, -1, -1, [])], [], [2], [], [], []), ([(2, 0, 0, [12]), (0, 1, 1, []), (0, -1, 2147483647, [])], [], [2], [], [], []), ([(2, 0, 0, [12]), (0, 0, 0, []), (0, -1, 5, [])], [], [2], [], [], [])], [], [])
def n_Ho_fault_an : List an_T := []
def t_Ho_fault_ct : ct_L := []
set_option maxRecDepth 100000 in
theorem c_Ho_fault {l : Launch} {D : va_G} {kA : Nat → ClassId} : ct_ok l D kA GG y_Ho_fault z_Ho_fault e_Ho_fault := chk_all_ok (FT := [(38, 12, 4), (135, 8, 2), (138, 8, 3)]) (PT := []) (CT := t_Ho_fault_ct) (KT := []) (AN := n_Ho_fault_an) 0 200 (by decide +kernel) ⟨List.forall_mem_cons.mpr ⟨gf_Ho_38, List.forall_mem_cons.mpr ⟨gf_Ho_135, List.forall_mem_cons.mpr ⟨gf_Ho_138, List.forall_mem_nil _⟩⟩⟩, List.forall_mem_nil _, List.forall_mem_nil _, List.forall_mem_nil _⟩ (by decide +kernel)
abbrev b_Ho_isPlace : ByteArray := prog_1_method_30_code
def y_Ho_isPlace : MethodName := ⟨"DrawingHouse", "isPlace", "(I)Z"⟩
abbrev z_Ho_isPlace : List Cond := Cond.code y_Ho_isPlace b_Ho_isPlace 1 (some .boolean) :: lw_g
def e_Ho_isPlace : en_T := ([(0, -2147483648, 2147483647, [])], some (0, 0, 1, []), true, 1, 0, 0, [([(0, -2147483648, -1, []), (0, 0, 0, [])], [], [1], [], [], []), ([(0, 4, 2147483647, []), (0, 0, 0, [])], [], [1], [], [], []), ([(0, 0, 3, []), (0, 1, 1, [])], [], [1], [], [], [])], [], [])
def n_Ho_isPlace_an : List an_T := []
def t_Ho_isPlace_ct : ct_L := []
set_option maxRecDepth 100000 in
theorem c_Ho_isPlace {l : Launch} {D : va_G} {kA : Nat → ClassId} : ct_ok l D kA GG y_Ho_isPlace z_Ho_isPlace e_Ho_isPlace := chk_all_ok (FT := []) (PT := []) (CT := t_Ho_isPlace_ct) (KT := []) (AN := n_Ho_isPlace_an) 0 200 (by decide +kernel) ⟨List.forall_mem_nil _, List.forall_mem_nil _, List.forall_mem_nil _, List.forall_mem_nil _⟩ (by decide +kernel)
abbrev b_Ho_map : ByteArray := prog_1_method_14_code
def y_Ho_map : MethodName := ⟨"DrawingHouse", "map", "(I)I"⟩
abbrev z_Ho_map : List Cond := Cond.code y_Ho_map b_Ho_map 2 (some .int) :: lw_g
def e_Ho_map : en_T := ([(2, 0, 0, [12]), (0, -2147483648, 2147483647, [])], some (0, -1, 20000, []), true, 1, 0, 0, [([(2, 0, 0, [12]), (0, -2147483648, -1, []), (0, -1, -1, [])], [], [2], [], [], []), ([(2, 0, 0, [12]), (0, 0, 2147483647, []), (0, -1, -1, [])], [], [2], [], [], []), ([(2, 0, 0, [12]), (0, 0, 23, []), (0, 0, 23, [])], [], [2], [], [], []), ([(2, 0, 0, [12]), (0, -1, -1, []), (0, -1, 20000, [])], [], [2], [], [], [])], [], [])
def n_Ho_map_an : List an_T := []
def t_Ho_map_ct : ct_L := []
set_option maxRecDepth 100000 in
theorem c_Ho_map {l : Launch} {D : va_G} {kA : Nat → ClassId} : ct_ok l D kA GG y_Ho_map z_Ho_map e_Ho_map := chk_all_ok (FT := [(49, 12, 6), (53, 12, 7), (57, 12, 8)]) (PT := []) (CT := t_Ho_map_ct) (KT := []) (AN := n_Ho_map_an) 0 200 (by decide +kernel) ⟨List.forall_mem_cons.mpr ⟨gf_Ho_49, List.forall_mem_cons.mpr ⟨gf_Ho_53, List.forall_mem_cons.mpr ⟨gf_Ho_57, List.forall_mem_nil _⟩⟩⟩, List.forall_mem_nil _, List.forall_mem_nil _, List.forall_mem_nil _⟩ (by decide +kernel)
abbrev b_Ho_octet : ByteArray := prog_1_method_27_code
def y_Ho_octet : MethodName := ⟨"DrawingHouse", "octet", "(I)I"⟩
abbrev z_Ho_octet : List Cond := Cond.code y_Ho_octet b_Ho_octet 2 (some .int) :: lw_g
def e_Ho_octet : en_T := ([(2, 0, 0, [12]), (0, -2147483648, 2147483647, [])], some (0, -128, 127, []), true, 1, 0, 0, [([(2, 0, 0, [12]), (0, -2147483648, -1, []), (0, -1, -1, [])], [], [2], [], [], []), ([(2, 0, 0, [12]), (0, 0, 2147483647, []), (0, -1, -1, [])], [], [2], [], [], []), ([(2, 0, 0, [12]), (0, 0, 3999, []), (0, -128, 127, [])], [], [2], [], [], [])], [], [])
def n_Ho_octet_an : List an_T := []
def t_Ho_octet_ct : ct_L := []
set_option maxRecDepth 100000 in
theorem c_Ho_octet {l : Launch} {D : va_G} {kA : Nat → ClassId} : ct_ok l D kA GG y_Ho_octet z_Ho_octet e_Ho_octet := chk_all_ok (FT := [(60, 12, 9), (67, 12, 11)]) (PT := []) (CT := t_Ho_octet_ct) (KT := []) (AN := n_Ho_octet_an) 0 200 (by decide +kernel) ⟨List.forall_mem_cons.mpr ⟨gf_Ho_60, List.forall_mem_cons.mpr ⟨gf_Ho_67, List.forall_mem_nil _⟩⟩, List.forall_mem_nil _, List.forall_mem_nil _, List.forall_mem_nil _⟩ (by decide +kernel)
abbrev b_Ho_setDot : ByteArray := prog_1_method_45_code
def y_Ho_setDot : MethodName := ⟨"DrawingHouse", "setDot", "(III)V"⟩
abbrev z_Ho_setDot : List Cond := Cond.code y_Ho_setDot b_Ho_setDot 4 none :: lw_g
def e_Ho_setDot : en_T := ([(2, 0, 0, [12]), (0, -2147483648, 2147483647, []), (0, -2147483648, 2147483647, []), (0, 1, 256, [])], none, false, 1, 0, 0, [], [], [])
def n_Ho_setDot_an : List an_T := []
def t_Ho_setDot_ct : ct_L := []
set_option maxRecDepth 100000 in
theorem c_Ho_setDot {l : Launch} {D : va_G} {kA : Nat → ClassId} : ct_ok l D kA GG y_Ho_setDot z_Ho_setDot e_Ho_setDot := chk_all_ok (FT := [(73, 12, 13), (76, 12, 14), (79, 12, 15)]) (PT := []) (CT := t_Ho_setDot_ct) (KT := []) (AN := n_Ho_setDot_an) 0 200 (by decide +kernel) ⟨List.forall_mem_cons.mpr ⟨gf_Ho_73, List.forall_mem_cons.mpr ⟨gf_Ho_76, List.forall_mem_cons.mpr ⟨gf_Ho_79, List.forall_mem_nil _⟩⟩⟩, List.forall_mem_nil _, List.forall_mem_nil _, List.forall_mem_nil _⟩ (by decide +kernel)
abbrev b_Dr_countBends : ByteArray := prog_2_method_31_code
def y_Dr_countBends : MethodName := ⟨"DrawingHouse$Drawing", "countBends", "()J"⟩
abbrev z_Dr_countBends : List Cond := Cond.code y_Dr_countBends b_Dr_countBends 4 (some .long) :: lw_g
def e_Dr_countBends : en_T := ([(2, 0, 0, [0])], some (1, -9223372036854775808, 9223372036854775807, []), true, 1, 0, 0, [], [], [])
def n_Dr_countBends_an : List an_T := [(4, [(0, (2, 0, 0, [0])), (1, (1, -9223372036854775808, 9223372036854775807, [])), (3, (0, 0, 48, []))], [], (0, 0), [(0, 0, 99996), (1, 2, 48), (0, 0, 100000)], [], [])]
def t_Dr_countBends_ct : ct_L := []
set_option maxRecDepth 100000 in
theorem c_Dr_countBends {l : Launch} {D : va_G} {kA : Nat → ClassId} : ct_ok l D kA GG y_Dr_countBends z_Dr_countBends e_Dr_countBends := chk_all_ok (FT := [(22, 0, 4), (74, 0, 0), (151, 3, 1)]) (PT := []) (CT := t_Dr_countBends_ct) (KT := []) (AN := n_Dr_countBends_an) 3 200 (by decide +kernel) ⟨List.forall_mem_cons.mpr ⟨gf_Dr_22, List.forall_mem_cons.mpr ⟨gf_Dr_74, List.forall_mem_cons.mpr ⟨gf_Dr_151, List.forall_mem_nil _⟩⟩⟩, List.forall_mem_nil _, List.forall_mem_nil _, List.forall_mem_nil _⟩ (by decide +kernel)
abbrev b_Dr_pointX : ByteArray := prog_2_method_10_code
def y_Dr_pointX : MethodName := ⟨"DrawingHouse$Drawing", "pointX", "(II)I"⟩
abbrev z_Dr_pointX : List Cond := Cond.code y_Dr_pointX b_Dr_pointX 3 (some .int) :: lw_g
def e_Dr_pointX : en_T := ([(2, 0, 0, [0]), (0, 0, 47, []), (0, 0, 25, [])], some (0, -2147483648, 2147483647, []), true, 1, 0, 0, [([(2, 0, 0, [0]), (0, 0, 47, []), (0, 1, 25, []), (0, -2147483648, 2147483647, [])], [], [3], [], [], []), ([(2, 0, 0, [0]), (0, 0, 47, []), (0, 1, 24, []), (0, -2147483648, 2147483647, [])], [], [3], [], [], []), ([(2, 0, 0, [0]), (0, 0, 47, []), (0, 0, 0, []), (0, -2147483648, 2147483647, [])], [], [3], [], [], [])], [], [])
def n_Dr_pointX_an : List an_T := []
def t_Dr_pointX_ct : ct_L := []
set_option maxRecDepth 100000 in
theorem c_Dr_pointX {l : Launch} {D : va_G} {kA : Nat → ClassId} : ct_ok l D kA GG y_Dr_pointX z_Dr_pointX e_Dr_pointX := chk_all_ok (FT := [(15, 0, 2), (22, 0, 4), (25, 0, 5), (74, 0, 0), (106, 3, 7), (109, 3, 8)]) (PT := []) (CT := t_Dr_pointX_ct) (KT := []) (AN := n_Dr_pointX_an) 0 200 (by decide +kernel) ⟨List.forall_mem_cons.mpr ⟨gf_Dr_15, List.forall_mem_cons.mpr ⟨gf_Dr_22, List.forall_mem_cons.mpr ⟨gf_Dr_25, List.forall_mem_cons.mpr ⟨gf_Dr_74, List.forall_mem_cons.mpr ⟨gf_Dr_106, List.forall_mem_cons.mpr ⟨gf_Dr_109, List.forall_mem_nil _⟩⟩⟩⟩⟩⟩, List.forall_mem_nil _, List.forall_mem_nil _, List.forall_mem_nil _⟩ (by decide +kernel)
abbrev b_Dr_pointY : ByteArray := prog_2_method_11_code
def y_Dr_pointY : MethodName := ⟨"DrawingHouse$Drawing", "pointY", "(II)I"⟩
abbrev z_Dr_pointY : List Cond := Cond.code y_Dr_pointY b_Dr_pointY 3 (some .int) :: lw_g
def e_Dr_pointY : en_T := ([(2, 0, 0, [0]), (0, 0, 47, []), (0, 0, 25, [])], some (0, -2147483648, 2147483647, []), true, 1, 0, 0, [([(2, 0, 0, [0]), (0, 0, 47, []), (0, 1, 25, []), (0, -2147483648, 2147483647, [])], [], [3], [], [], []), ([(2, 0, 0, [0]), (0, 0, 47, []), (0, 1, 24, []), (0, -2147483648, 2147483647, [])], [], [3], [], [], []), ([(2, 0, 0, [0]), (0, 0, 47, []), (0, 0, 0, []), (0, -2147483648, 2147483647, [])], [], [3], [], [], [])], [], [])
def n_Dr_pointY_an : List an_T := []
def t_Dr_pointY_ct : ct_L := []
set_option maxRecDepth 100000 in
theorem c_Dr_pointY {l : Launch} {D : va_G} {kA : Nat → ClassId} : ct_ok l D kA GG y_Dr_pointY z_Dr_pointY e_Dr_pointY := chk_all_ok (FT := [(19, 0, 3), (22, 0, 4), (28, 0, 6), (74, 0, 0), (106, 3, 7), (109, 3, 8)]) (PT := []) (CT := t_Dr_pointY_ct) (KT := []) (AN := n_Dr_pointY_an) 0 200 (by decide +kernel) ⟨List.forall_mem_cons.mpr ⟨gf_Dr_19, List.forall_mem_cons.mpr ⟨gf_Dr_22, List.forall_mem_cons.mpr ⟨gf_Dr_28, List.forall_mem_cons.mpr ⟨gf_Dr_74, List.forall_mem_cons.mpr ⟨gf_Dr_106, List.forall_mem_cons.mpr ⟨gf_Dr_109, List.forall_mem_nil _⟩⟩⟩⟩⟩⟩, List.forall_mem_nil _, List.forall_mem_nil _, List.forall_mem_nil _⟩ (by decide +kernel)
abbrev b_Dr_sharedNode : ByteArray := prog_2_method_22_code
def y_Dr_sharedNode : MethodName := ⟨"DrawingHouse$Drawing", "sharedNode", "(II)I"⟩
abbrev z_Dr_sharedNode : List Cond := Cond.code y_Dr_sharedNode b_Dr_sharedNode 5 (some .int) :: lw_g
def e_Dr_sharedNode : en_T := ([(2, 0, 0, [0]), (0, 0, 47, []), (0, 1, 47, [])], some (0, -1, 23, []), true, 1, 0, 0, [], [], [])
def n_Dr_sharedNode_an : List an_T := []
def t_Dr_sharedNode_ct : ct_L := []
set_option maxRecDepth 100000 in
theorem c_Dr_sharedNode {l : Launch} {D : va_G} {kA : Nat → ClassId} : ct_ok l D kA GG y_Dr_sharedNode z_Dr_sharedNode e_Dr_sharedNode := chk_all_ok (FT := [(74, 0, 0), (106, 3, 7), (109, 3, 8)]) (PT := []) (CT := t_Dr_sharedNode_ct) (KT := []) (AN := n_Dr_sharedNode_an) 0 208 (by decide +kernel) ⟨List.forall_mem_cons.mpr ⟨gf_Dr_74, List.forall_mem_cons.mpr ⟨gf_Dr_106, List.forall_mem_cons.mpr ⟨gf_Dr_109, List.forall_mem_nil _⟩⟩⟩, List.forall_mem_nil _, List.forall_mem_nil _, List.forall_mem_nil _⟩ (by decide +kernel)
abbrev b_Em_countFits : ByteArray := prog_3_method_10_code
def y_Em_countFits : MethodName := ⟨"DrawingHouse$Embedder", "countFits", "(I)I"⟩
abbrev z_Em_countFits : List Cond := Cond.code y_Em_countFits b_Em_countFits 4 (some .int) :: lw_g
def e_Em_countFits : en_T := ([(2, 0, 0, [1]), (0, 0, 33554431, [])], some (0, -2147483648, 2147483647, []), true, 1, 0, 0, [], [], [])
def n_Em_countFits_an : List an_T := [(4, [(0, (2, 0, 0, [1])), (1, (0, 0, 33554431, [])), (2, (0, -2147483648, 2147483647, [])), (3, (0, 0, 50, []))], [], (0, 0), [(0, 0, 99996), (1, 3, 50), (0, 0, 100000)], [], [])]
def t_Em_countFits_ct : ct_L := []
set_option maxRecDepth 100000 in
theorem c_Em_countFits {l : Launch} {D : va_G} {kA : Nat → ClassId} : ct_ok l D kA GG y_Em_countFits z_Em_countFits e_Em_countFits := chk_all_ok (FT := [(39, 1, 7), (48, 1, 10)]) (PT := []) (CT := t_Em_countFits_ct) (KT := []) (AN := n_Em_countFits_an) 3 200 (by decide +kernel) ⟨List.forall_mem_cons.mpr ⟨gf_Em_39, List.forall_mem_cons.mpr ⟨gf_Em_48, List.forall_mem_nil _⟩⟩, List.forall_mem_nil _, List.forall_mem_nil _, List.forall_mem_nil _⟩ (by decide +kernel)
abbrev b_Em_firstFit : ByteArray := prog_3_method_11_code
def y_Em_firstFit : MethodName := ⟨"DrawingHouse$Embedder", "firstFit", "(I)I"⟩
abbrev z_Em_firstFit : List Cond := Cond.code y_Em_firstFit b_Em_firstFit 3 (some .int) :: lw_g
def e_Em_firstFit : en_T := ([(2, 0, 0, [1]), (0, 0, 33554431, [])], some (0, 0, 49, []), true, 1, 0, 0, [], [], [])
def n_Em_firstFit_an : List an_T := [(2, [(0, (2, 0, 0, [1])), (1, (0, 0, 33554431, [])), (2, (0, 0, 50, []))], [], (0, 0), [(0, 0, 99998), (1, 2, 50), (0, 0, 100000)], [], [])]
def t_Em_firstFit_ct : ct_L := []
set_option maxRecDepth 100000 in
theorem c_Em_firstFit {l : Launch} {D : va_G} {kA : Nat → ClassId} : ct_ok l D kA GG y_Em_firstFit z_Em_firstFit e_Em_firstFit := chk_all_ok (FT := [(39, 1, 7), (48, 1, 10)]) (PT := []) (CT := t_Em_firstFit_ct) (KT := []) (AN := n_Em_firstFit_an) 3 200 (by decide +kernel) ⟨List.forall_mem_cons.mpr ⟨gf_Em_39, List.forall_mem_cons.mpr ⟨gf_Em_48, List.forall_mem_nil _⟩⟩, List.forall_mem_nil _, List.forall_mem_nil _, List.forall_mem_nil _⟩ (by decide +kernel)
abbrev b_Em_leastEdgeAt : ByteArray := prog_3_method_20_code
def y_Em_leastEdgeAt : MethodName := ⟨"DrawingHouse$Embedder", "leastEdgeAt", "(II)I"⟩
abbrev z_Em_leastEdgeAt : List Cond := Cond.code y_Em_leastEdgeAt b_Em_leastEdgeAt 4 (some .int) :: lw_g
def e_Em_leastEdgeAt : en_T := ([(2, 0, 0, [1]), (0, 0, 24, []), (0, -2147483648, 2147483646, [])], some (0, -1, 71, []), true, 1, 0, 0, [], [((0, 0), (2, 0, 0, [5]))], [])
def n_Em_leastEdgeAt_an : List an_T := [(2, [(0, (2, 0, 0, [1])), (1, (0, 0, 24, [])), (2, (0, -2147483648, 2147483646, [])), (3, (0, 0, 72, []))], [], (0, 0), [(0, 0, 99998), (1, 3, 72), (0, 0, 100000)], [], [((0, 0), (2, 0, 0, [5]))])]
def t_Em_leastEdgeAt_ct : ct_L := []
set_option maxRecDepth 100000 in
theorem c_Em_leastEdgeAt {l : Launch} {D : va_G} {kA : Nat → ClassId} : ct_ok l D kA GG y_Em_leastEdgeAt z_Em_leastEdgeAt e_Em_leastEdgeAt := chk_all_ok (FT := [(9, 1, 0), (21, 1, 2), (133, 5, 6), (134, 5, 7), (135, 5, 8)]) (PT := []) (CT := t_Em_leastEdgeAt_ct) (KT := []) (AN := n_Em_leastEdgeAt_an) 3 200 (by decide +kernel) ⟨List.forall_mem_cons.mpr ⟨gf_Em_9, List.forall_mem_cons.mpr ⟨gf_Em_21, List.forall_mem_cons.mpr ⟨gf_Em_133, List.forall_mem_cons.mpr ⟨gf_Em_134, List.forall_mem_cons.mpr ⟨gf_Em_135, List.forall_mem_nil _⟩⟩⟩⟩⟩, List.forall_mem_nil _, List.forall_mem_nil _, List.forall_mem_nil _⟩ (by decide +kernel)
abbrev b_Fa_isBridge : ByteArray := prog_4_method_10_code
def y_Fa_isBridge : MethodName := ⟨"DrawingHouse$Facts", "isBridge", "(I)Z"⟩
abbrev z_Fa_isBridge : List Cond := Cond.code y_Fa_isBridge b_Fa_isBridge 3 (some .boolean) :: lw_g
def e_Fa_isBridge : en_T := ([(2, 0, 0, [2]), (0, 0, 47, [])], some (0, 0, 1, []), true, 1, 0, 0, [], [], [])
def n_Fa_isBridge_an : List an_T := [(2, [(0, (2, 0, 0, [2])), (1, (0, 0, 47, [])), (2, (0, 0, 48, []))], [], (0, 0), [(0, 0, 99998), (1, 2, 48), (0, 0, 100000)], [], [])]
def t_Fa_isBridge_ct : ct_L := []
set_option maxRecDepth 100000 in
theorem c_Fa_isBridge {l : Launch} {D : va_G} {kA : Nat → ClassId} : ct_ok l D kA GG y_Fa_isBridge z_Fa_isBridge e_Fa_isBridge := chk_all_ok (FT := [(29, 2, 5)]) (PT := []) (CT := t_Fa_isBridge_ct) (KT := []) (AN := n_Fa_isBridge_an) 3 200 (by decide +kernel) ⟨List.forall_mem_cons.mpr ⟨gf_Fa_29, List.forall_mem_nil _⟩, List.forall_mem_nil _, List.forall_mem_nil _, List.forall_mem_nil _⟩ (by decide +kernel)
abbrev b_Fa_weights : ByteArray := prog_4_method_24_code
def y_Fa_weights : MethodName := ⟨"DrawingHouse$Facts", "weights", "(LDrawingHouse$Graph;IIZ)I"⟩
abbrev z_Fa_weights : List Cond := Cond.code y_Fa_weights b_Fa_weights 8 (some .int) :: lw_g
def e_Fa_weights : en_T := ([(2, 0, 0, [3]), (0, 0, 23, []), (0, 0, 16777215, []), (0, 0, 1, [])], some (0, -2147483648, 2147483647, []), true, 1, 0, 0, [], [], [])
def n_Fa_weights_an : List an_T := [(6, [(0, (2, 0, 0, [3])), (1, (0, 0, 23, [])), (2, (0, 0, 16777215, [])), (3, (0, 0, 1, [])), (4, (0, -2147483648, 2147483647, [])), (5, (0, 0, 48, []))], [], (0, 0), [(0, 0, 99994), (1, 5, 48), (0, 0, 100000)], [], [])]
def t_Fa_weights_ct : ct_L := []
set_option maxRecDepth 100000 in
theorem c_Fa_weights {l : Launch} {D : va_G} {kA : Nat → ClassId} : ct_ok l D kA GG y_Fa_weights z_Fa_weights e_Fa_weights := chk_all_ok (FT := [(69, 3, 1), (72, 3, 7), (75, 3, 8), (169, 3, 9)]) (PT := []) (CT := t_Fa_weights_ct) (KT := []) (AN := n_Fa_weights_an) 3 328 (by decide +kernel) ⟨List.forall_mem_cons.mpr ⟨gf_Fa_69, List.forall_mem_cons.mpr ⟨gf_Fa_72, List.forall_mem_cons.mpr ⟨gf_Fa_75, List.forall_mem_cons.mpr ⟨gf_Fa_169, List.forall_mem_nil _⟩⟩⟩⟩, List.forall_mem_nil _, List.forall_mem_nil _, List.forall_mem_nil _⟩ (by decide +kernel)
abbrev b_Gr_edgeBetween : ByteArray := prog_5_method_7_code
def y_Gr_edgeBetween : MethodName := ⟨"DrawingHouse$Graph", "edgeBetween", "(II)I"⟩
abbrev z_Gr_edgeBetween : List Cond := Cond.code y_Gr_edgeBetween b_Gr_edgeBetween 3 (some .int) :: lw_g
def e_Gr_edgeBetween : en_T := ([(2, 0, 0, [3]), (0, 0, 23, []), (0, 0, 23, [])], some (0, -1, 47, []), true, 1, 0, 0, [([(2, 0, 0, [3]), (0, 0, 23, []), (0, 0, 23, []), (0, -1, 47, [])], [], [3], [], [], [])], [], [])
def n_Gr_edgeBetween_an : List an_T := []
def t_Gr_edgeBetween_ct : ct_L := []
set_option maxRecDepth 100000 in
theorem c_Gr_edgeBetween {l : Launch} {D : va_G} {kA : Nat → ClassId} : ct_ok l D kA GG y_Gr_edgeBetween z_Gr_edgeBetween e_Gr_edgeBetween := chk_all_ok (FT := [(59, 3, 15)]) (PT := []) (CT := t_Gr_edgeBetween_ct) (KT := []) (AN := n_Gr_edgeBetween_an) 0 200 (by decide +kernel) ⟨List.forall_mem_cons.mpr ⟨gf_Gr_59, List.forall_mem_nil _⟩, List.forall_mem_nil _, List.forall_mem_nil _, List.forall_mem_nil _⟩ (by decide +kernel)
abbrev b_Gr_fourLetters : ByteArray := prog_5_method_28_code
def y_Gr_fourLetters : MethodName := ⟨"DrawingHouse$Graph", "fourLetters", "(I)I"⟩
abbrev z_Gr_fourLetters : List Cond := Cond.code y_Gr_fourLetters b_Gr_fourLetters 2 (some .int) :: lw_g
def e_Gr_fourLetters : en_T := ([(2, 0, 0, [3]), (0, 0, 188, [])], some (0, -2147483648, 2147483647, []), true, 1, 0, 0, [([(2, 0, 0, [3]), (0, 0, 188, []), (0, -2147483648, 2147483647, [])], [], [2], [], [], [])], [], [])
def n_Gr_fourLetters_an : List an_T := []
def t_Gr_fourLetters_ct : ct_L := []
set_option maxRecDepth 100000 in
theorem c_Gr_fourLetters {l : Launch} {D : va_G} {kA : Nat → ClassId} : ct_ok l D kA GG y_Gr_fourLetters z_Gr_fourLetters e_Gr_fourLetters := chk_all_ok (FT := [(21, 3, 3)]) (PT := []) (CT := t_Gr_fourLetters_ct) (KT := []) (AN := n_Gr_fourLetters_an) 0 200 (by decide +kernel) ⟨List.forall_mem_cons.mpr ⟨gf_Gr_21, List.forall_mem_nil _⟩, List.forall_mem_nil _, List.forall_mem_nil _, List.forall_mem_nil _⟩ (by decide +kernel)
abbrev b_Gr_half : ByteArray := prog_5_method_8_code
def y_Gr_half : MethodName := ⟨"DrawingHouse$Graph", "half", "(I)I"⟩
abbrev z_Gr_half : List Cond := Cond.code y_Gr_half b_Gr_half 2 (some .int) :: lw_g
def e_Gr_half : en_T := ([(2, 0, 0, [3]), (0, 0, 23, [])], some (0, 1, 9, []), true, 1, 0, 0, [([(2, 0, 0, [3]), (0, 0, 23, []), (0, 1, 9, [])], [], [2], [], [], [])], [], [])
def n_Gr_half_an : List an_T := []
def t_Gr_half_ct : ct_L := []
set_option maxRecDepth 100000 in
theorem c_Gr_half {l : Launch} {D : va_G} {kA : Nat → ClassId} : ct_ok l D kA GG y_Gr_half z_Gr_half e_Gr_half := chk_all_ok (FT := [(25, 3, 4)]) (PT := []) (CT := t_Gr_half_ct) (KT := []) (AN := n_Gr_half_an) 0 200 (by decide +kernel) ⟨List.forall_mem_cons.mpr ⟨gf_Gr_25, List.forall_mem_nil _⟩, List.forall_mem_nil _, List.forall_mem_nil _, List.forall_mem_nil _⟩ (by decide +kernel)
abbrev b_Gr_hasEdge : ByteArray := prog_5_method_5_code
def y_Gr_hasEdge : MethodName := ⟨"DrawingHouse$Graph", "hasEdge", "(I)Z"⟩
abbrev z_Gr_hasEdge : List Cond := Cond.code y_Gr_hasEdge b_Gr_hasEdge 2 (some .boolean) :: lw_g
def e_Gr_hasEdge : en_T := ([(2, 0, 0, [3]), (0, -2147483648, 2147483647, [])], some (0, 0, 1, []), true, 1, 0, 0, [([(2, 0, 0, [3]), (0, -2147483648, -1, []), (0, 0, 0, [])], [], [2], [], [], []), ([(2, 0, 0, [3]), (0, 0, 2147483647, []), (0, 0, 0, [])], [], [2], [], [], []), ([(2, 0, 0, [3]), (0, 0, 47, []), (0, 1, 1, [])], [], [2], [], [], [])], [], [])
def n_Gr_hasEdge_an : List an_T := []
def t_Gr_hasEdge_ct : ct_L := []
set_option maxRecDepth 100000 in
theorem c_Gr_hasEdge {l : Launch} {D : va_G} {kA : Nat → ClassId} : ct_ok l D kA GG y_Gr_hasEdge z_Gr_hasEdge e_Gr_hasEdge := chk_all_ok (FT := [(15, 3, 1)]) (PT := []) (CT := t_Gr_hasEdge_ct) (KT := []) (AN := n_Gr_hasEdge_an) 0 200 (by decide +kernel) ⟨List.forall_mem_cons.mpr ⟨gf_Gr_15, List.forall_mem_nil _⟩, List.forall_mem_nil _, List.forall_mem_nil _, List.forall_mem_nil _⟩ (by decide +kernel)
abbrev b_Gr_hasGroup : ByteArray := prog_5_method_6_code
def y_Gr_hasGroup : MethodName := ⟨"DrawingHouse$Graph", "hasGroup", "(I)Z"⟩
abbrev z_Gr_hasGroup : List Cond := Cond.code y_Gr_hasGroup b_Gr_hasGroup 2 (some .boolean) :: lw_g
def e_Gr_hasGroup : en_T := ([(2, 0, 0, [3]), (0, -2147483648, 2147483647, [])], some (0, 0, 1, []), true, 1, 0, 0, [([(2, 0, 0, [3]), (0, -2147483648, -1, []), (0, 0, 0, [])], [], [2], [], [], []), ([(2, 0, 0, [3]), (0, 0, 2147483647, []), (0, 0, 0, [])], [], [2], [], [], []), ([(2, 0, 0, [3]), (0, 0, 7, []), (0, 1, 1, [])], [], [2], [], [], [])], [], [])
def n_Gr_hasGroup_an : List an_T := []
def t_Gr_hasGroup_ct : ct_L := []
set_option maxRecDepth 100000 in
theorem c_Gr_hasGroup {l : Launch} {D : va_G} {kA : Nat → ClassId} : ct_ok l D kA GG y_Gr_hasGroup z_Gr_hasGroup e_Gr_hasGroup := chk_all_ok (FT := [(18, 3, 2)]) (PT := []) (CT := t_Gr_hasGroup_ct) (KT := []) (AN := n_Gr_hasGroup_an) 0 200 (by decide +kernel) ⟨List.forall_mem_cons.mpr ⟨gf_Gr_18, List.forall_mem_nil _⟩, List.forall_mem_nil _, List.forall_mem_nil _, List.forall_mem_nil _⟩ (by decide +kernel)
abbrev b_Gr_hasNode : ByteArray := prog_5_method_4_code
def y_Gr_hasNode : MethodName := ⟨"DrawingHouse$Graph", "hasNode", "(I)Z"⟩
abbrev z_Gr_hasNode : List Cond := Cond.code y_Gr_hasNode b_Gr_hasNode 2 (some .boolean) :: lw_g
def e_Gr_hasNode : en_T := ([(2, 0, 0, [3]), (0, -2147483648, 2147483647, [])], some (0, 0, 1, []), true, 1, 0, 0, [([(2, 0, 0, [3]), (0, -2147483648, -1, []), (0, 0, 0, [])], [], [2], [], [], []), ([(2, 0, 0, [3]), (0, 0, 2147483647, []), (0, 0, 0, [])], [], [2], [], [], []), ([(2, 0, 0, [3]), (0, 0, 23, []), (0, 1, 1, [])], [], [2], [], [], [])], [], [])
def n_Gr_hasNode_an : List an_T := []
def t_Gr_hasNode_ct : ct_L := []
set_option maxRecDepth 100000 in
theorem c_Gr_hasNode {l : Launch} {D : va_G} {kA : Nat → ClassId} : ct_ok l D kA GG y_Gr_hasNode z_Gr_hasNode e_Gr_hasNode := chk_all_ok (FT := [(9, 3, 0)]) (PT := []) (CT := t_Gr_hasNode_ct) (KT := []) (AN := n_Gr_hasNode_an) 0 200 (by decide +kernel) ⟨List.forall_mem_cons.mpr ⟨gf_Gr_9, List.forall_mem_nil _⟩, List.forall_mem_nil _, List.forall_mem_nil _, List.forall_mem_nil _⟩ (by decide +kernel)
abbrev b_Gr_setLetters : ByteArray := prog_5_method_29_code
def y_Gr_setLetters : MethodName := ⟨"DrawingHouse$Graph", "setLetters", "(II)V"⟩
abbrev z_Gr_setLetters : List Cond := Cond.code y_Gr_setLetters b_Gr_setLetters 3 none :: lw_g
def e_Gr_setLetters : en_T := ([(2, 0, 0, [3]), (0, 0, 188, []), (0, -2147483648, 2147483647, [])], none, false, 1, 0, 0, [], [], [])
def n_Gr_setLetters_an : List an_T := []
def t_Gr_setLetters_ct : ct_L := []
set_option maxRecDepth 100000 in
theorem c_Gr_setLetters {l : Launch} {D : va_G} {kA : Nat → ClassId} : ct_ok l D kA GG y_Gr_setLetters z_Gr_setLetters e_Gr_setLetters := chk_all_ok (FT := [(21, 3, 3)]) (PT := []) (CT := t_Gr_setLetters_ct) (KT := []) (AN := n_Gr_setLetters_an) 0 200 (by decide +kernel) ⟨List.forall_mem_cons.mpr ⟨gf_Gr_21, List.forall_mem_nil _⟩, List.forall_mem_nil _, List.forall_mem_nil _, List.forall_mem_nil _⟩ (by decide +kernel)
abbrev b_Gr_sizeOfGroup : ByteArray := prog_5_method_10_code
def y_Gr_sizeOfGroup : MethodName := ⟨"DrawingHouse$Graph", "sizeOfGroup", "(I)I"⟩
abbrev z_Gr_sizeOfGroup : List Cond := Cond.code y_Gr_sizeOfGroup b_Gr_sizeOfGroup 6 (some .int) :: lw_g
def e_Gr_sizeOfGroup : en_T := ([(2, 0, 0, [3]), (0, 0, 7, [])], some (0, -2147483648, 2147483647, []), true, 1, 0, 0, [], [], [])
def n_Gr_sizeOfGroup_an : List an_T := [(4, [(0, (2, 0, 0, [3])), (1, (0, 0, 7, [])), (2, (0, -2147483648, 2147483647, [])), (3, (0, 0, 24, []))], [], (0, 0), [(0, 0, 99996), (1, 3, 24), (0, 0, 100000), (0, 0, 0), (0, 0, 0)], [], []), (23, [(0, (2, 0, 0, [3])), (1, (0, 0, 7, [])), (2, (0, -2147483648, 2147483647, [])), (3, (0, 0, 23, [])), (4, (0, -1, 7, [])), (5, (0, 0, 8, []))], [], (0, 0), [(0, 0, 99996), (1, 3, 24), (0, 0, 99977), (1, 5, 8), (0, 0, 100000)], [], [])]
def t_Gr_sizeOfGroup_ct : ct_L := []
set_option maxRecDepth 100000 in
theorem c_Gr_sizeOfGroup {l : Launch} {D : va_G} {kA : Nat → ClassId} : ct_ok l D kA GG y_Gr_sizeOfGroup z_Gr_sizeOfGroup e_Gr_sizeOfGroup := chk_all_ok (FT := [(9, 3, 0), (29, 3, 5), (32, 3, 6), (47, 3, 11)]) (PT := []) (CT := t_Gr_sizeOfGroup_ct) (KT := []) (AN := n_Gr_sizeOfGroup_an) 5 232 (by decide +kernel) ⟨List.forall_mem_cons.mpr ⟨gf_Gr_9, List.forall_mem_cons.mpr ⟨gf_Gr_29, List.forall_mem_cons.mpr ⟨gf_Gr_32, List.forall_mem_cons.mpr ⟨gf_Gr_47, List.forall_mem_nil _⟩⟩⟩⟩, List.forall_mem_nil _, List.forall_mem_nil _, List.forall_mem_nil _⟩ (by decide +kernel)
abbrev b_Gr_tie : ByteArray := prog_5_method_16_code
def y_Gr_tie : MethodName := ⟨"DrawingHouse$Graph", "tie", "(I)V"⟩
abbrev z_Gr_tie : List Cond := Cond.code y_Gr_tie b_Gr_tie 2 none :: lw_g
def e_Gr_tie : en_T := ([(2, 0, 0, [3]), (0, 0, 47, [])], none, false, 1, 0, 0, [], [], [])
def n_Gr_tie_an : List an_T := []
def t_Gr_tie_ct : ct_L := []
set_option maxRecDepth 100000 in
theorem c_Gr_tie {l : Launch} {D : va_G} {kA : Nat → ClassId} : ct_ok l D kA GG y_Gr_tie z_Gr_tie e_Gr_tie := chk_all_ok (FT := [(35, 3, 7), (38, 3, 8), (56, 3, 14), (59, 3, 15)]) (PT := []) (CT := t_Gr_tie_ct) (KT := []) (AN := n_Gr_tie_an) 0 252 (by decide +kernel) ⟨List.forall_mem_cons.mpr ⟨gf_Gr_35, List.forall_mem_cons.mpr ⟨gf_Gr_38, List.forall_mem_cons.mpr ⟨gf_Gr_56, List.forall_mem_cons.mpr ⟨gf_Gr_59, List.forall_mem_nil _⟩⟩⟩⟩, List.forall_mem_nil _, List.forall_mem_nil _, List.forall_mem_nil _⟩ (by decide +kernel)
abbrev b_La_countCrossings : ByteArray := prog_6_method_27_code
def y_La_countCrossings : MethodName := ⟨"DrawingHouse$Layers", "countCrossings", "()I"⟩
abbrev z_La_countCrossings : List Cond := Cond.code y_La_countCrossings b_La_countCrossings 7 (some .int) :: lw_g
def e_La_countCrossings : en_T := ([(2, 0, 0, [4])], some (0, -2147483648, 2147483647, []), true, 1, 0, 0, [], [], [])
def n_La_countCrossings_an : List an_T := [(4, [(0, (2, 0, 0, [4])), (1, (0, -2147483648, 2147483647, [])), (2, (0, 0, 24, []))], [], (0, 0), [(0, 0, 99996), (1, 2, 24), (0, 0, 100000), (0, 0, 0), (0, 0, 0), (0, 0, 0), (0, 0, 0)], [], []), (21, [(0, (2, 0, 0, [4])), (1, (0, -2147483648, 2147483647, [])), (2, (0, 0, 23, [])), (3, (0, 0, 120, []))], [], (0, 0), [(0, 0, 99996), (1, 2, 24), (0, 0, 99979), (1, 3, 120), (0, 0, 100000), (0, 0, 0), (0, 0, 0)], [], []), (38, [(0, (2, 0, 0, [4])), (1, (0, -2147483648, 2147483647, [])), (2, (0, 0, 23, [])), (3, (0, 0, 119, [])), (4, (0, 1, 120, []))], [], (0, 0), [(0, 0, 99996), (1, 2, 24), (0, 0, 99979), (1, 3, 120), (0, 0, 99962), (1, 4, 120), (0, 0, 100000)], [], [])]
def t_La_countCrossings_ct : ct_L := []
set_option maxRecDepth 100000 in
theorem c_La_countCrossings {l : Launch} {D : va_G} {kA : Nat → ClassId} : ct_ok l D kA GG y_La_countCrossings z_La_countCrossings e_La_countCrossings := chk_all_ok (FT := [(22, 4, 2), (36, 4, 6), (39, 4, 7), (45, 4, 9), (60, 4, 14)]) (PT := []) (CT := t_La_countCrossings_ct) (KT := []) (AN := n_La_countCrossings_an) 7 380 (by decide +kernel) ⟨List.forall_mem_cons.mpr ⟨gf_La_22, List.forall_mem_cons.mpr ⟨gf_La_36, List.forall_mem_cons.mpr ⟨gf_La_39, List.forall_mem_cons.mpr ⟨gf_La_45, List.forall_mem_cons.mpr ⟨gf_La_60, List.forall_mem_nil _⟩⟩⟩⟩⟩, List.forall_mem_nil _, List.forall_mem_nil _, List.forall_mem_nil _⟩ (by decide +kernel)
abbrev b_La_lowerEnd : ByteArray := prog_6_method_7_code
def y_La_lowerEnd : MethodName := ⟨"DrawingHouse$Layers", "lowerEnd", "(LDrawingHouse$Facts;I)I"⟩
abbrev z_La_lowerEnd : List Cond := Cond.code y_La_lowerEnd b_La_lowerEnd 3 (some .int) :: lw_g
def e_La_lowerEnd : en_T := ([(2, 0, 0, [4]), (2, 0, 0, [2]), (0, 0, 47, [])], some (0, 0, 23, []), true, 1, 0, 0, [([(2, 0, 0, [4]), (2, 0, 0, [2]), (0, 0, 47, []), (2, 0, 0, [3]), (0, 0, 23, [])], [], [4], [((0, 1), 3)], [], [])], [((0, 1), (2, 0, 0, [3]))], [])
def n_La_lowerEnd_an : List an_T := []
def t_La_lowerEnd_ct : ct_L := []
set_option maxRecDepth 100000 in
theorem c_La_lowerEnd {l : Launch} {D : va_G} {kA : Nat → ClassId} : ct_ok l D kA GG y_La_lowerEnd z_La_lowerEnd e_La_lowerEnd := chk_all_ok (FT := [(18, 4, 1), (125, 2, 9), (131, 3, 8), (136, 3, 7)]) (PT := []) (CT := t_La_lowerEnd_ct) (KT := []) (AN := n_La_lowerEnd_an) 0 200 (by decide +kernel) ⟨List.forall_mem_cons.mpr ⟨gf_La_18, List.forall_mem_cons.mpr ⟨gf_La_125, List.forall_mem_cons.mpr ⟨gf_La_131, List.forall_mem_cons.mpr ⟨gf_La_136, List.forall_mem_nil _⟩⟩⟩⟩, List.forall_mem_nil _, List.forall_mem_nil _, List.forall_mem_nil _⟩ (by decide +kernel)
abbrev b_La_upperEnd : ByteArray := prog_6_method_6_code
def y_La_upperEnd : MethodName := ⟨"DrawingHouse$Layers", "upperEnd", "(LDrawingHouse$Facts;I)I"⟩
abbrev z_La_upperEnd : List Cond := Cond.code y_La_upperEnd b_La_upperEnd 3 (some .int) :: lw_g
def e_La_upperEnd : en_T := ([(2, 0, 0, [4]), (2, 0, 0, [2]), (0, 0, 47, [])], some (0, 0, 23, []), true, 1, 0, 0, [([(2, 0, 0, [4]), (2, 0, 0, [2]), (0, 0, 47, []), (2, 0, 0, [3]), (0, 0, 23, [])], [], [4], [((0, 1), 3)], [], [])], [((0, 1), (2, 0, 0, [3]))], [])
def n_La_upperEnd_an : List an_T := []
def t_La_upperEnd_ct : ct_L := []
set_option maxRecDepth 100000 in
theorem c_La_upperEnd {l : Launch} {D : va_G} {kA : Nat → ClassId} : ct_ok l D kA GG y_La_upperEnd z_La_upperEnd e_La_upperEnd := chk_all_ok (FT := [(18, 4, 1), (125, 2, 9), (131, 3, 8), (136, 3, 7)]) (PT := []) (CT := t_La_upperEnd_ct) (KT := []) (AN := n_La_upperEnd_an) 0 200 (by decide +kernel) ⟨List.forall_mem_cons.mpr ⟨gf_La_18, List.forall_mem_cons.mpr ⟨gf_La_125, List.forall_mem_cons.mpr ⟨gf_La_131, List.forall_mem_cons.mpr ⟨gf_La_136, List.forall_mem_nil _⟩⟩⟩⟩, List.forall_mem_nil _, List.forall_mem_nil _, List.forall_mem_nil _⟩ (by decide +kernel)
abbrev b_Ne_edgeBetween : ByteArray := prog_7_method_6_code
def y_Ne_edgeBetween : MethodName := ⟨"DrawingHouse$Net", "edgeBetween", "(II)I"⟩
abbrev z_Ne_edgeBetween : List Cond := Cond.code y_Ne_edgeBetween b_Ne_edgeBetween 3 (some .int) :: lw_g
def e_Ne_edgeBetween : en_T := ([(2, 0, 0, [5]), (0, 0, 24, []), (0, 0, 24, [])], some (0, -1, 71, []), true, 1, 0, 0, [([(2, 0, 0, [5]), (0, 0, 24, []), (0, 0, 24, []), (0, -1, 71, [])], [], [3], [], [], [])], [], [])
def n_Ne_edgeBetween_an : List an_T := []
def t_Ne_edgeBetween_ct : ct_L := []
set_option maxRecDepth 100000 in
theorem c_Ne_edgeBetween {l : Launch} {D : va_G} {kA : Nat → ClassId} : ct_ok l D kA GG y_Ne_edgeBetween z_Ne_edgeBetween e_Ne_edgeBetween := chk_all_ok (FT := [(43, 5, 10)]) (PT := []) (CT := t_Ne_edgeBetween_ct) (KT := []) (AN := n_Ne_edgeBetween_an) 0 200 (by decide +kernel) ⟨List.forall_mem_cons.mpr ⟨gf_Ne_43, List.forall_mem_nil _⟩, List.forall_mem_nil _, List.forall_mem_nil _, List.forall_mem_nil _⟩ (by decide +kernel)
abbrev b_Ne_forget : ByteArray := prog_7_method_2_code
def y_Ne_forget : MethodName := ⟨"DrawingHouse$Net", "forget", "()V"⟩
abbrev z_Ne_forget : List Cond := Cond.code y_Ne_forget b_Ne_forget 1 none :: lw_g
def e_Ne_forget : en_T := ([(2, 0, 0, [5])], none, false, 1, 0, 0, [], [], [(5, 0), (5, 1), (5, 2), (5, 3)])
def n_Ne_forget_an : List an_T := []
def t_Ne_forget_ct : ct_L := []
set_option maxRecDepth 100000 in
theorem c_Ne_forget {l : Launch} {D : va_G} {kA : Nat → ClassId} : ct_ok l D kA GG y_Ne_forget z_Ne_forget e_Ne_forget := chk_all_ok (FT := []) (PT := [(9, 5, 0, .int), (15, 5, 1, .int), (18, 5, 2, .int), (21, 5, 3, .int)]) (CT := t_Ne_forget_ct) (KT := []) (AN := n_Ne_forget_an) 0 200 (by decide +kernel) ⟨List.forall_mem_nil _, List.forall_mem_cons.mpr ⟨pf_Ne_9, List.forall_mem_cons.mpr ⟨pf_Ne_15, List.forall_mem_cons.mpr ⟨pf_Ne_18, List.forall_mem_cons.mpr ⟨pf_Ne_21, List.forall_mem_nil _⟩⟩⟩⟩, List.forall_mem_nil _, List.forall_mem_nil _⟩ (by decide +kernel)
abbrev b_Ne_join : ByteArray := prog_7_method_5_code
def y_Ne_join : MethodName := ⟨"DrawingHouse$Net", "join", "(II)I"⟩
abbrev z_Ne_join : List Cond := Cond.code y_Ne_join b_Ne_join 4 (some .int) :: lw_g
def e_Ne_join : en_T := ([(2, 0, 0, [5]), (0, 0, 24, []), (0, 0, 24, [])], some (0, -1, 71, []), false, 1, 0, 0, [], [], [(5, 6)])
def n_Ne_join_an : List an_T := []
def t_Ne_join_ct : ct_L := []
set_option maxRecDepth 100000 in
theorem c_Ne_join {l : Launch} {D : va_G} {kA : Nat → ClassId} : ct_ok l D kA GG y_Ne_join z_Ne_join e_Ne_join := chk_all_ok (FT := [(31, 5, 6), (34, 5, 7), (37, 5, 8), (40, 5, 9), (43, 5, 10)]) (PT := [(31, 5, 6, .int)]) (CT := t_Ne_join_ct) (KT := []) (AN := n_Ne_join_an) 0 260 (by decide +kernel) ⟨List.forall_mem_cons.mpr ⟨gf_Ne_31, List.forall_mem_cons.mpr ⟨gf_Ne_34, List.forall_mem_cons.mpr ⟨gf_Ne_37, List.forall_mem_cons.mpr ⟨gf_Ne_40, List.forall_mem_cons.mpr ⟨gf_Ne_43, List.forall_mem_nil _⟩⟩⟩⟩⟩, List.forall_mem_cons.mpr ⟨pf_Ne_31, List.forall_mem_nil _⟩, List.forall_mem_nil _, List.forall_mem_nil _⟩ (by decide +kernel)
abbrev b_Pl_edgeOfLevel : ByteArray := prog_8_method_8_code
def y_Pl_edgeOfLevel : MethodName := ⟨"DrawingHouse$PlainWays", "edgeOfLevel", "(IIZ)I"⟩
abbrev z_Pl_edgeOfLevel : List Cond := Cond.code y_Pl_edgeOfLevel b_Pl_edgeOfLevel 7 (some .int) :: lw_g
def e_Pl_edgeOfLevel : en_T := ([(2, 0, 0, [6]), (0, 0, 16777215, []), (0, 0, 23, []), (0, 0, 1, [])], some (0, -2147483648, 2147483647, []), true, 1, 0, 0, [], [((0, 0), (2, 0, 0, [3])), ((0, 1), (2, 0, 0, [0]))], [])
def n_Pl_edgeOfLevel_an : List an_T := [(7, [(0, (2, 0, 0, [6])), (1, (0, 0, 16777215, [])), (2, (0, 0, 23, [])), (3, (0, 0, 1, [])), (4, (0, -2147483648, 2147483647, [])), (5, (0, 0, 24, []))], [], (0, 0), [(0, 0, 99993), (1, 5, 24), (0, 0, 100000)], [], [((0, 0), (2, 0, 0, [3])), ((0, 1), (2, 0, 0, [0]))])]
def t_Pl_edgeOfLevel_ct : ct_L := []
set_option maxRecDepth 100000 in
theorem c_Pl_edgeOfLevel {l : Launch} {D : va_G} {kA : Nat → ClassId} : ct_ok l D kA GG y_Pl_edgeOfLevel z_Pl_edgeOfLevel e_Pl_edgeOfLevel := chk_all_ok (FT := [(9, 6, 0), (15, 6, 1), (26, 6, 4), (74, 3, 0), (127, 0, 2)]) (PT := []) (CT := t_Pl_edgeOfLevel_ct) (KT := [(0, 149, .int (Int32.ofInt (-2147483648)), (0, -2147483648, -2147483648, []))]) (AN := n_Pl_edgeOfLevel_an) 3 244 (by decide +kernel) ⟨List.forall_mem_cons.mpr ⟨gf_Pl_9, List.forall_mem_cons.mpr ⟨gf_Pl_15, List.forall_mem_cons.mpr ⟨gf_Pl_26, List.forall_mem_cons.mpr ⟨gf_Pl_74, List.forall_mem_cons.mpr ⟨gf_Pl_127, List.forall_mem_nil _⟩⟩⟩⟩⟩, List.forall_mem_nil _, List.forall_mem_nil _, List.forall_mem_cons.mpr ⟨kx_Pl_0_149, List.forall_mem_nil _⟩⟩ (by decide +kernel)
abbrev b_Pl_leastOfPart : ByteArray := prog_8_method_4_code
def y_Pl_leastOfPart : MethodName := ⟨"DrawingHouse$PlainWays", "leastOfPart", "(LDrawingHouse$Facts;I)I"⟩
abbrev z_Pl_leastOfPart : List Cond := Cond.code y_Pl_leastOfPart b_Pl_leastOfPart 4 (some .int) :: lw_g
def e_Pl_leastOfPart : en_T := ([(2, 0, 0, [6]), (2, 0, 0, [2]), (0, 0, 2147483646, [])], some (0, 0, 23, []), true, 1, 0, 0, [], [((0, 0), (2, 0, 0, [3]))], [])
def n_Pl_leastOfPart_an : List an_T := [(2, [(0, (2, 0, 0, [6])), (1, (2, 0, 0, [2])), (2, (0, 0, 2147483646, [])), (3, (0, 0, 24, []))], [], (0, 0), [(0, 0, 99998), (1, 3, 24), (0, 0, 100000)], [], [((0, 0), (2, 0, 0, [3]))])]
def t_Pl_leastOfPart_ct : ct_L := []
set_option maxRecDepth 100000 in
theorem c_Pl_leastOfPart {l : Launch} {D : va_G} {kA : Nat → ClassId} : ct_ok l D kA GG y_Pl_leastOfPart z_Pl_leastOfPart e_Pl_leastOfPart := chk_all_ok (FT := [(9, 6, 0), (74, 3, 0), (109, 2, 4)]) (PT := []) (CT := t_Pl_leastOfPart_ct) (KT := []) (AN := n_Pl_leastOfPart_an) 3 200 (by decide +kernel) ⟨List.forall_mem_cons.mpr ⟨gf_Pl_9, List.forall_mem_cons.mpr ⟨gf_Pl_74, List.forall_mem_cons.mpr ⟨gf_Pl_109, List.forall_mem_nil _⟩⟩⟩, List.forall_mem_nil _, List.forall_mem_nil _, List.forall_mem_nil _⟩ (by decide +kernel)
abbrev b_Pl_root : ByteArray := prog_8_method_24_code
def y_Pl_root : MethodName := ⟨"DrawingHouse$PlainWays", "root", "(J)J"⟩
abbrev z_Pl_root : List Cond := Cond.code y_Pl_root b_Pl_root 7 (some .long) :: lw_g
def e_Pl_root : en_T := ([(1, -9223372036854775808, 9223372036854775807, [])], some (1, -9223372036854775808, 9223372036854775807, []), true, 1, 0, 0, [], [], [])
def n_Pl_root_an : List an_T := [(6, [(0, (1, -9223372036854775808, 9223372036854775807, [])), (2, (1, -9223372036854775808, 9223372036854775807, [])), (4, (0, -1, 20, []))], [], (0, 0), [(0, 0, 99994), (2, 2, -1), (0, 0, 100000)], [], [])]
def t_Pl_root_ct : ct_L := []
set_option maxRecDepth 100000 in
theorem c_Pl_root {l : Launch} {D : va_G} {kA : Nat → ClassId} : ct_ok l D kA GG y_Pl_root z_Pl_root e_Pl_root := chk_all_ok (FT := []) (PT := []) (CT := t_Pl_root_ct) (KT := []) (AN := n_Pl_root_an) 3 200 (by decide +kernel) ⟨List.forall_mem_nil _, List.forall_mem_nil _, List.forall_mem_nil _, List.forall_mem_nil _⟩ (by decide +kernel)
abbrev b_Pl_setArea : ByteArray := prog_8_method_10_code
def y_Pl_setArea : MethodName := ⟨"DrawingHouse$PlainWays", "setArea", "(IIIII)V"⟩
abbrev z_Pl_setArea : List Cond := Cond.code y_Pl_setArea b_Pl_setArea 6 none :: lw_g
def e_Pl_setArea : en_T := ([(2, 0, 0, [6]), (0, 0, 31, []), (0, -2147483648, 2147483647, []), (0, -2147483648, 2147483647, []), (0, -2147483648, 2147483647, []), (0, -2147483648, 2147483647, [])], none, false, 1, 0, 0, [([(2, 0, 0, [6]), (0, 0, 31, []), (0, -2147483648, 2147483647, []), (0, -2147483648, 2147483647, []), (0, -2147483648, 2147483647, []), (0, -2147483648, 2147483647, []), (2, 0, 0, [0])], [], [], [((0, 1), 6)], [], [])], [((0, 1), (2, 0, 0, [0]))], [])
def n_Pl_setArea_an : List an_T := []
def t_Pl_setArea_ct : ct_L := []
set_option maxRecDepth 100000 in
theorem c_Pl_setArea {l : Launch} {D : va_G} {kA : Nat → ClassId} : ct_ok l D kA GG y_Pl_setArea z_Pl_setArea e_Pl_setArea := chk_all_ok (FT := [(15, 6, 1), (153, 0, 13)]) (PT := []) (CT := t_Pl_setArea_ct) (KT := []) (AN := n_Pl_setArea_an) 0 200 (by decide +kernel) ⟨List.forall_mem_cons.mpr ⟨gf_Pl_15, List.forall_mem_cons.mpr ⟨gf_Pl_153, List.forall_mem_nil _⟩⟩, List.forall_mem_nil _, List.forall_mem_nil _, List.forall_mem_nil _⟩ (by decide +kernel)
abbrev b_Pn_firstLongFace : ByteArray := prog_9_method_6_code
def y_Pn_firstLongFace : MethodName := ⟨"DrawingHouse$PlanarWays", "firstLongFace", "()I"⟩
abbrev z_Pn_firstLongFace : List Cond := Cond.code y_Pn_firstLongFace b_Pn_firstLongFace 2 (some .int) :: lw_g
def e_Pn_firstLongFace : en_T := ([(2, 0, 0, [7])], some (0, -1, 143, []), true, 1, 0, 0, [], [], [])
def n_Pn_firstLongFace_an : List an_T := [(2, [(0, (2, 0, 0, [7])), (1, (0, 0, 144, []))], [], (0, 0), [(0, 0, 99998), (1, 1, 144), (0, 0, 100000)], [], [])]
def t_Pn_firstLongFace_ct : ct_L := []
set_option maxRecDepth 100000 in
theorem c_Pn_firstLongFace {l : Launch} {D : va_G} {kA : Nat → ClassId} : ct_ok l D kA GG y_Pn_firstLongFace z_Pn_firstLongFace e_Pn_firstLongFace := chk_all_ok (FT := [(12, 7, 0), (122, 5, 13), (125, 5, 14)]) (PT := []) (CT := t_Pn_firstLongFace_ct) (KT := []) (AN := n_Pn_firstLongFace_an) 3 200 (by decide +kernel) ⟨List.forall_mem_cons.mpr ⟨gf_Pn_12, List.forall_mem_cons.mpr ⟨gf_Pn_122, List.forall_mem_cons.mpr ⟨gf_Pn_125, List.forall_mem_nil _⟩⟩⟩, List.forall_mem_nil _, List.forall_mem_nil _, List.forall_mem_nil _⟩ (by decide +kernel)
abbrev b_Re_fail : ByteArray := prog_10_method_4_code
def y_Re_fail : MethodName := ⟨"DrawingHouse$Reader", "fail", "(I)Z"⟩
abbrev z_Re_fail : List Cond := Cond.code y_Re_fail b_Re_fail 2 (some .boolean) :: lw_g
def e_Re_fail : en_T := ([(2, 0, 0, [8]), (0, 1, 5, [])], some (0, 0, 0, []), false, 1, 0, 0, [], [], [(8, 2), (8, 3)])
def n_Re_fail_an : List an_T := []
def t_Re_fail_ct : ct_L := []
set_option maxRecDepth 100000 in
theorem c_Re_fail {l : Launch} {D : va_G} {kA : Nat → ClassId} : ct_ok l D kA GG y_Re_fail z_Re_fail e_Re_fail := chk_all_ok (FT := [(41, 8, 8)]) (PT := [(19, 8, 2, .int), (22, 8, 3, .int)]) (CT := t_Re_fail_ct) (KT := []) (AN := n_Re_fail_an) 0 200 (by decide +kernel) ⟨List.forall_mem_cons.mpr ⟨gf_Re_41, List.forall_mem_nil _⟩, List.forall_mem_cons.mpr ⟨pf_Re_19, List.forall_mem_cons.mpr ⟨pf_Re_22, List.forall_mem_nil _⟩⟩, List.forall_mem_nil _, List.forall_mem_nil _⟩ (by decide +kernel)
abbrev b_Re_isDigit : ByteArray := prog_10_method_6_code
def y_Re_isDigit : MethodName := ⟨"DrawingHouse$Reader", "isDigit", "(I)Z"⟩
abbrev z_Re_isDigit : List Cond := Cond.code y_Re_isDigit b_Re_isDigit 1 (some .boolean) :: lw_g
def e_Re_isDigit : en_T := ([(0, -128, 127, [])], some (0, 0, 1, []), true, 1, 0, 0, [([(0, -128, 47, []), (0, 0, 0, [])], [], [1], [], [], []), ([(0, 58, 127, []), (0, 0, 0, [])], [], [1], [], [], []), ([(0, 48, 57, []), (0, 1, 1, [])], [], [1], [], [], [])], [], [])
def n_Re_isDigit_an : List an_T := []
def t_Re_isDigit_ct : ct_L := []
set_option maxRecDepth 100000 in
theorem c_Re_isDigit {l : Launch} {D : va_G} {kA : Nat → ClassId} : ct_ok l D kA GG y_Re_isDigit z_Re_isDigit e_Re_isDigit := chk_all_ok (FT := []) (PT := []) (CT := t_Re_isDigit_ct) (KT := []) (AN := n_Re_isDigit_an) 0 200 (by decide +kernel) ⟨List.forall_mem_nil _, List.forall_mem_nil _, List.forall_mem_nil _, List.forall_mem_nil _⟩ (by decide +kernel)
abbrev b_Re_isLetter : ByteArray := prog_10_method_5_code
def y_Re_isLetter : MethodName := ⟨"DrawingHouse$Reader", "isLetter", "(I)Z"⟩
abbrev z_Re_isLetter : List Cond := Cond.code y_Re_isLetter b_Re_isLetter 1 (some .boolean) :: lw_g
def e_Re_isLetter : en_T := ([(0, -128, 127, [])], some (0, 0, 1, []), true, 1, 0, 0, [([(0, -128, 64, []), (0, 0, 0, [])], [], [1], [], [], []), ([(0, 91, 96, []), (0, 0, 0, [])], [], [1], [], [], []), ([(0, 65, 90, []), (0, 1, 1, [])], [], [1], [], [], []), ([(0, 97, 122, []), (0, 1, 1, [])], [], [1], [], [], []), ([(0, 123, 127, []), (0, 0, 0, [])], [], [1], [], [], [])], [], [])
def n_Re_isLetter_an : List an_T := []
def t_Re_isLetter_ct : ct_L := []
set_option maxRecDepth 100000 in
theorem c_Re_isLetter {l : Launch} {D : va_G} {kA : Nat → ClassId} : ct_ok l D kA GG y_Re_isLetter z_Re_isLetter e_Re_isLetter := chk_all_ok (FT := []) (PT := []) (CT := t_Re_isLetter_ct) (KT := []) (AN := n_Re_isLetter_an) 0 200 (by decide +kernel) ⟨List.forall_mem_nil _, List.forall_mem_nil _, List.forall_mem_nil _, List.forall_mem_nil _⟩ (by decide +kernel)
abbrev b_Re_isSign : ByteArray := prog_10_method_7_code
def y_Re_isSign : MethodName := ⟨"DrawingHouse$Reader", "isSign", "(I)Z"⟩
abbrev z_Re_isSign : List Cond := Cond.code y_Re_isSign b_Re_isSign 1 (some .boolean) :: lw_g
def e_Re_isSign : en_T := ([(0, -128, 127, [])], some (0, 0, 1, []), true, 1, 0, 0, [], [], [])
def n_Re_isSign_an : List an_T := []
def t_Re_isSign_ct : ct_L := []
set_option maxRecDepth 100000 in
theorem c_Re_isSign {l : Launch} {D : va_G} {kA : Nat → ClassId} : ct_ok l D kA GG y_Re_isSign z_Re_isSign e_Re_isSign := chk_all_ok (FT := []) (PT := []) (CT := t_Re_isSign_ct) (KT := []) (AN := n_Re_isSign_an) 0 200 (by decide +kernel) ⟨List.forall_mem_nil _, List.forall_mem_nil _, List.forall_mem_nil _, List.forall_mem_nil _⟩ (by decide +kernel)
abbrev b_Ro_enter : ByteArray := prog_11_method_7_code
def y_Ro_enter : MethodName := ⟨"DrawingHouse$Router", "enter", "(II)V"⟩
abbrev z_Ro_enter : List Cond := Cond.code y_Ro_enter b_Ro_enter 3 none :: lw_g
def e_Ro_enter : en_T := ([(2, 0, 0, [9]), (0, 0, 23999, []), (0, -2147483646, 1000000003, [])], none, false, 1, 0, 0, [], [], [(9, 14)])
def n_Ro_enter_an : List an_T := []
def t_Ro_enter_ct : ct_L := []
set_option maxRecDepth 100000 in
theorem c_Ro_enter {l : Launch} {D : va_G} {kA : Nat → ClassId} : ct_ok l D kA GG y_Ro_enter z_Ro_enter e_Ro_enter := chk_all_ok (FT := [(45, 9, 10), (49, 9, 11), (53, 9, 12), (56, 9, 13), (59, 9, 14)]) (PT := [(59, 9, 14, .int)]) (CT := t_Ro_enter_ct) (KT := [(0, 52, .int (48004), (0, 48004, 48004, []))]) (AN := n_Ro_enter_an) 0 200 (by decide +kernel) ⟨List.forall_mem_cons.mpr ⟨gf_Ro_45, List.forall_mem_cons.mpr ⟨gf_Ro_49, List.forall_mem_cons.mpr ⟨gf_Ro_53, List.forall_mem_cons.mpr ⟨gf_Ro_56, List.forall_mem_cons.mpr ⟨gf_Ro_59, List.forall_mem_nil _⟩⟩⟩⟩⟩, List.forall_mem_cons.mpr ⟨pf_Ro_59, List.forall_mem_nil _⟩, List.forall_mem_nil _, List.forall_mem_cons.mpr ⟨kx_Ro_0_52, List.forall_mem_nil _⟩⟩ (by decide +kernel)
abbrev b_Ro_pointOf : ByteArray := prog_11_method_4_code
def y_Ro_pointOf : MethodName := ⟨"DrawingHouse$Router", "pointOf", "(I)I"⟩
abbrev z_Ro_pointOf : List Cond := Cond.code y_Ro_pointOf b_Ro_pointOf 2 (some .int) :: lw_g
def e_Ro_pointOf : en_T := ([(2, 0, 0, [9]), (0, 0, 23, [])], some (0, -2147483648, 2147483647, []), true, 1, 0, 0, [([(2, 0, 0, [9]), (0, 0, 23, []), (2, 0, 0, [0]), (0, -2147483648, 2147483647, [])], [], [3], [((0, 1), 2)], [], [])], [((0, 1), (2, 0, 0, [0]))], [])
def n_Ro_pointOf_an : List an_T := []
def t_Ro_pointOf_ct : ct_L := []
set_option maxRecDepth 100000 in
theorem c_Ro_pointOf {l : Launch} {D : va_G} {kA : Nat → ClassId} : ct_ok l D kA GG y_Ro_pointOf z_Ro_pointOf e_Ro_pointOf := chk_all_ok (FT := [(15, 9, 1), (19, 9, 2), (23, 9, 3), (26, 9, 4), (111, 0, 2), (126, 0, 3)]) (PT := []) (CT := t_Ro_pointOf_ct) (KT := []) (AN := n_Ro_pointOf_an) 0 200 (by decide +kernel) ⟨List.forall_mem_cons.mpr ⟨gf_Ro_15, List.forall_mem_cons.mpr ⟨gf_Ro_19, List.forall_mem_cons.mpr ⟨gf_Ro_23, List.forall_mem_cons.mpr ⟨gf_Ro_26, List.forall_mem_cons.mpr ⟨gf_Ro_111, List.forall_mem_cons.mpr ⟨gf_Ro_126, List.forall_mem_nil _⟩⟩⟩⟩⟩⟩, List.forall_mem_nil _, List.forall_mem_nil _, List.forall_mem_nil _⟩ (by decide +kernel)
