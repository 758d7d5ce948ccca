abbrev b_Mo_across1 : ByteArray := prog_15_method_63_code
def y_Mo_across1 : MethodName := ⟨"DrawingHouseModel", "across", "(II)I"⟩
abbrev z_Mo_across1 : List Cond := Cond.code y_Mo_across1 b_Mo_across1 3 (some .int) :: lw_g
def e_Mo_across1 : en_T := ([(2, 0, 0, [0]), (0, 0, 79, []), (0, 0, 24, [])], some (0, 0, 24, []), true, 1, 0, 0, [([(2, 0, 0, [0]), (0, 0, 79, []), (0, 0, 24, []), (0, 0, 24, [])], [], [3], [], [], [])])
def n_Mo_across1_an : List an_T := []
def t_Mo_across1_ct : ct_L := []
set_option maxRecDepth 100000 in
theorem c_Mo_across1 {l : Launch} {D : va_G} {kA : Nat → ClassId} : ct_ok l D kA GM y_Mo_across1 z_Mo_across1 e_Mo_across1 := chk_all_ok (FT := FT_Mo) (PT := PT_Mo) (CT := t_Mo_across1_ct) (KT := KT_Mo) (AN := n_Mo_across1_an) 0 200 (by decide +kernel) ⟨FT_Mo_ok, PT_Mo_ok, List.forall_mem_nil _, KT_Mo_ok⟩ (by decide +kernel)
abbrev b_Mo_bounded : ByteArray := prog_15_method_176_code
def y_Mo_bounded : MethodName := ⟨"DrawingHouseModel", "bounded", "(JJ)J"⟩
abbrev z_Mo_bounded : List Cond := Cond.code y_Mo_bounded b_Mo_bounded 4 (some .long) :: lw_g
def e_Mo_bounded : en_T := ([(1, 0, 0, []), (1, 0, 256, [])], some (1, -256, 256, []), true, 1, 0, 0, [([(1, 0, 0, []), (1, 0, 256, [])], [], [0], [], [], []), ([(1, 0, 0, []), (1, 0, 256, []), (1, -256, 0, [])], [], [2], [], [], []), ([(1, 0, 0, []), (1, 0, 256, [])], [], [1], [], [], [])])
def n_Mo_bounded_an : List an_T := []
def t_Mo_bounded_ct : ct_L := []
set_option maxRecDepth 100000 in
theorem c_Mo_bounded {l : Launch} {D : va_G} {kA : Nat → ClassId} : ct_ok l D kA GM y_Mo_bounded z_Mo_bounded e_Mo_bounded := chk_all_ok (FT := FT_Mo) (PT := PT_Mo) (CT := t_Mo_bounded_ct) (KT := KT_Mo) (AN := n_Mo_bounded_an) 0 200 (by decide +kernel) ⟨FT_Mo_ok, PT_Mo_ok, List.forall_mem_nil _, KT_Mo_ok⟩ (by decide +kernel)
abbrev b_Mo_byteAt : ByteArray := prog_15_method_25_code
def y_Mo_byteAt : MethodName := ⟨"DrawingHouseModel", "byteAt", "(I)I"⟩
abbrev z_Mo_byteAt : List Cond := Cond.code y_Mo_byteAt b_Mo_byteAt 2 (some .int) :: lw_g
def e_Mo_byteAt : en_T := ([(2, 0, 0, [0]), (0, 0, 0, [])], some (0, -1, 255, []), true, 1, 0, 0, [([(2, 0, 0, [0]), (0, 0, 0, []), (0, -1, -1, [])], [], [2], [], [], []), ([(2, 0, 0, [0]), (0, 0, 0, []), (0, 0, 255, [])], [], [2], [], [], [])])
def n_Mo_byteAt_an : List an_T := []
def t_Mo_byteAt_ct : ct_L := []
set_option maxRecDepth 100000 in
theorem c_Mo_byteAt {l : Launch} {D : va_G} {kA : Nat → ClassId} : ct_ok l D kA GM y_Mo_byteAt z_Mo_byteAt e_Mo_byteAt := chk_all_ok (FT := FT_Mo) (PT := PT_Mo) (CT := t_Mo_byteAt_ct) (KT := KT_Mo) (AN := n_Mo_byteAt_an) 0 200 (by decide +kernel) ⟨FT_Mo_ok, PT_Mo_ok, List.forall_mem_nil _, KT_Mo_ok⟩ (by decide +kernel)
abbrev b_Mo_degree : ByteArray := prog_15_method_58_code
def y_Mo_degree : MethodName := ⟨"DrawingHouseModel", "degree", "(II)I"⟩
abbrev z_Mo_degree : List Cond := Cond.code y_Mo_degree b_Mo_degree 5 (some .int) :: lw_g
def e_Mo_degree : en_T := ([(2, 0, 0, [0]), (5, 0, 66297, [539]), (0, 0, 23, [])], some (0, -2147483648, 2147483647, []), true, 1, 0, 0, [])
def n_Mo_degree_an : List an_T := [(5, [(0, (2, 0, 0, [0])), (1, (5, 0, 66297, [539])), (2, (0, 0, 23, [])), (3, (0, -2147483648, 2147483647, [])), (4, (0, 0, 2147483647, []))], [], (0, 0), [(0, 0, 99995), (1, 4, 2147483647), (0, 0, 100000)], [], [])]
def t_Mo_degree_ct : ct_L := []
set_option maxRecDepth 100000 in
theorem c_Mo_degree {l : Launch} {D : va_G} {kA : Nat → ClassId} : ct_ok l D kA GM y_Mo_degree z_Mo_degree e_Mo_degree := chk_all_ok (FT := FT_Mo) (PT := PT_Mo) (CT := t_Mo_degree_ct) (KT := KT_Mo) (AN := n_Mo_degree_an) 3 208 (by decide +kernel) ⟨FT_Mo_ok, PT_Mo_ok, List.forall_mem_nil _, KT_Mo_ok⟩ (by decide +kernel)
abbrev b_Mo_edges : ByteArray := prog_15_method_12_code
def y_Mo_edges : MethodName := ⟨"DrawingHouseModel", "edges", "()I"⟩
abbrev z_Mo_edges : List Cond := Cond.code y_Mo_edges b_Mo_edges 1 (some .int) :: lw_g
def e_Mo_edges : en_T := ([(2, 0, 0, [0])], some (0, 0, 48, []), true, 1, 0, 0, [([(2, 0, 0, [0]), (0, 0, 48, [])], [], [1], [], [], [])])
def n_Mo_edges_an : List an_T := []
def t_Mo_edges_ct : ct_L := []
set_option maxRecDepth 100000 in
theorem c_Mo_edges {l : Launch} {D : va_G} {kA : Nat → ClassId} : ct_ok l D kA GM y_Mo_edges z_Mo_edges e_Mo_edges := chk_all_ok (FT := FT_Mo) (PT := PT_Mo) (CT := t_Mo_edges_ct) (KT := KT_Mo) (AN := n_Mo_edges_an) 0 200 (by decide +kernel) ⟨FT_Mo_ok, PT_Mo_ok, List.forall_mem_nil _, KT_Mo_ok⟩ (by decide +kernel)
abbrev b_Mo_fromOf : ByteArray := prog_15_method_87_code
def y_Mo_fromOf : MethodName := ⟨"DrawingHouseModel", "fromOf", "(I)I"⟩
abbrev z_Mo_fromOf : List Cond := Cond.code y_Mo_fromOf b_Mo_fromOf 2 (some .int) :: lw_g
def e_Mo_fromOf : en_T := ([(2, 0, 0, [0]), (0, 0, 159, [])], some (0, 0, 24, []), true, 1, 0, 0, [([(2, 0, 0, [0]), (0, 0, 159, []), (0, 0, 24, [])], [], [2], [], [], [])])
def n_Mo_fromOf_an : List an_T := []
def t_Mo_fromOf_ct : ct_L := []
set_option maxRecDepth 100000 in
theorem c_Mo_fromOf {l : Launch} {D : va_G} {kA : Nat → ClassId} : ct_ok l D kA GM y_Mo_fromOf z_Mo_fromOf e_Mo_fromOf := chk_all_ok (FT := FT_Mo) (PT := PT_Mo) (CT := t_Mo_fromOf_ct) (KT := KT_Mo) (AN := n_Mo_fromOf_an) 0 200 (by decide +kernel) ⟨FT_Mo_ok, PT_Mo_ok, List.forall_mem_nil _, KT_Mo_ok⟩ (by decide +kernel)
abbrev b_Mo_groupOf : ByteArray := prog_15_method_19_code
def y_Mo_groupOf : MethodName := ⟨"DrawingHouseModel", "groupOf", "(I)I"⟩
abbrev z_Mo_groupOf : List Cond := Cond.code y_Mo_groupOf b_Mo_groupOf 2 (some .int) :: lw_g
def e_Mo_groupOf : en_T := ([(2, 0, 0, [0]), (0, 0, 23, [])], some (0, 0, 7, []), true, 1, 0, 0, [([(2, 0, 0, [0]), (0, 0, 23, []), (0, 0, 7, [])], [], [2], [], [], [])])
def n_Mo_groupOf_an : List an_T := []
def t_Mo_groupOf_ct : ct_L := []
set_option maxRecDepth 100000 in
theorem c_Mo_groupOf {l : Launch} {D : va_G} {kA : Nat → ClassId} : ct_ok l D kA GM y_Mo_groupOf z_Mo_groupOf e_Mo_groupOf := chk_all_ok (FT := FT_Mo) (PT := PT_Mo) (CT := t_Mo_groupOf_ct) (KT := KT_Mo) (AN := n_Mo_groupOf_an) 0 200 (by decide +kernel) ⟨FT_Mo_ok, PT_Mo_ok, List.forall_mem_nil _, KT_Mo_ok⟩ (by decide +kernel)
abbrev b_Mo_groups : ByteArray := prog_15_method_13_code
def y_Mo_groups : MethodName := ⟨"DrawingHouseModel", "groups", "()I"⟩
abbrev z_Mo_groups : List Cond := Cond.code y_Mo_groups b_Mo_groups 1 (some .int) :: lw_g
def e_Mo_groups : en_T := ([(2, 0, 0, [0])], some (0, 0, 8, []), true, 1, 0, 0, [([(2, 0, 0, [0]), (0, 0, 8, [])], [], [1], [], [], [])])
def n_Mo_groups_an : List an_T := []
def t_Mo_groups_ct : ct_L := []
set_option maxRecDepth 100000 in
theorem c_Mo_groups {l : Launch} {D : va_G} {kA : Nat → ClassId} : ct_ok l D kA GM y_Mo_groups z_Mo_groups e_Mo_groups := chk_all_ok (FT := FT_Mo) (PT := PT_Mo) (CT := t_Mo_groups_ct) (KT := KT_Mo) (AN := n_Mo_groups_an) 0 200 (by decide +kernel) ⟨FT_Mo_ok, PT_Mo_ok, List.forall_mem_nil _, KT_Mo_ok⟩ (by decide +kernel)
abbrev b_Mo_head : ByteArray := prog_15_method_15_code
def y_Mo_head : MethodName := ⟨"DrawingHouseModel", "head", "(I)I"⟩
abbrev z_Mo_head : List Cond := Cond.code y_Mo_head b_Mo_head 2 (some .int) :: lw_g
def e_Mo_head : en_T := ([(2, 0, 0, [0]), (0, 0, 79, [])], some (0, 0, 23, []), true, 1, 0, 0, [([(2, 0, 0, [0]), (0, 0, 79, []), (0, 0, 23, [])], [], [2], [], [], [])])
def n_Mo_head_an : List an_T := []
def t_Mo_head_ct : ct_L := []
set_option maxRecDepth 100000 in
theorem c_Mo_head {l : Launch} {D : va_G} {kA : Nat → ClassId} : ct_ok l D kA GM y_Mo_head z_Mo_head e_Mo_head := chk_all_ok (FT := FT_Mo) (PT := PT_Mo) (CT := t_Mo_head_ct) (KT := KT_Mo) (AN := n_Mo_head_an) 0 200 (by decide +kernel) ⟨FT_Mo_ok, PT_Mo_ok, List.forall_mem_nil _, KT_Mo_ok⟩ (by decide +kernel)
abbrev b_Mo_in : ByteArray := prog_15_method_3_code
def y_Mo_in : MethodName := ⟨"DrawingHouseModel", "in", "(III)Z"⟩
abbrev z_Mo_in : List Cond := Cond.code y_Mo_in b_Mo_in 3 (some .boolean) :: lw_g
def e_Mo_in : en_T := ([(0, -2147483648, 2147483647, []), (0, -1000000, 10, []), (0, -161, 1000000, [])], some (0, 0, 1, []), true, 1, 0, 0, [([(0, -2147483648, 9, []), (0, -1000000, 10, []), (0, -161, 1000000, []), (0, 0, 0, [])], [], [3], [], [(0, 1, -1000000000000, -1)], []), ([(0, -160, 2147483647, []), (0, -1000000, 10, []), (0, -161, 1000000, []), (0, 0, 0, [])], [], [3], [], [(0, 2, 1, 1000000000000), (0, 1, 0, 1000000000000)], []), ([(0, -1000000, 1000000, []), (0, -1000000, 10, []), (0, -161, 1000000, []), (0, 1, 1, [])], [], [3], [], [(0, 2, -1000000000000, 0), (0, 1, 0, 1000000000000)], [])])
def n_Mo_in_an : List an_T := []
def t_Mo_in_ct : ct_L := []
set_option maxRecDepth 100000 in
theorem c_Mo_in {l : Launch} {D : va_G} {kA : Nat → ClassId} : ct_ok l D kA GM y_Mo_in z_Mo_in e_Mo_in := chk_all_ok (FT := FT_Mo) (PT := PT_Mo) (CT := t_Mo_in_ct) (KT := KT_Mo) (AN := n_Mo_in_an) 0 200 (by decide +kernel) ⟨FT_Mo_ok, PT_Mo_ok, List.forall_mem_nil _, KT_Mo_ok⟩ (by decide +kernel)
abbrev b_Mo_isBridge : ByteArray := prog_15_method_97_code
def y_Mo_isBridge : MethodName := ⟨"DrawingHouseModel", "isBridge", "(I)Z"⟩
abbrev z_Mo_isBridge : List Cond := Cond.code y_Mo_isBridge b_Mo_isBridge 4 (some .boolean) :: lw_g
def e_Mo_isBridge : en_T := ([(2, 0, 0, [0]), (0, 0, 47, [])], some (0, 0, 1, []), true, 1, 0, 0, [])
def n_Mo_isBridge_an : List an_T := [(4, [(0, (2, 0, 0, [0])), (1, (0, 0, 47, [])), (2, (0, -2147483648, 2147483647, [])), (3, (0, 0, 2147483647, []))], [], (0, 0), [(0, 0, 99996), (1, 3, 2147483647), (0, 0, 100000)], [], [])]
def t_Mo_isBridge_ct : ct_L := []
set_option maxRecDepth 100000 in
theorem c_Mo_isBridge {l : Launch} {D : va_G} {kA : Nat → ClassId} : ct_ok l D kA GM y_Mo_isBridge z_Mo_isBridge e_Mo_isBridge := chk_all_ok (FT := FT_Mo) (PT := PT_Mo) (CT := t_Mo_isBridge_ct) (KT := KT_Mo) (AN := n_Mo_isBridge_an) 3 200 (by decide +kernel) ⟨FT_Mo_ok, PT_Mo_ok, List.forall_mem_nil _, KT_Mo_ok⟩ (by decide +kernel)
abbrev b_Mo_isMember : ByteArray := prog_15_method_116_code
def y_Mo_isMember : MethodName := ⟨"DrawingHouseModel", "isMember", "(I)Z"⟩
abbrev z_Mo_isMember : List Cond := Cond.code y_Mo_isMember b_Mo_isMember 3 (some .boolean) :: lw_g
def e_Mo_isMember : en_T := ([(2, 0, 0, [0]), (0, 0, 23, [])], some (0, 0, 1, []), true, 1, 0, 0, [])
def n_Mo_isMember_an : List an_T := [(2, [(0, (2, 0, 0, [0])), (1, (0, 0, 23, [])), (2, (0, 0, 2147483647, []))], [], (0, 0), [(0, 0, 99998), (1, 2, 2147483647), (0, 0, 100000)], [], [])]
def t_Mo_isMember_ct : ct_L := []
set_option maxRecDepth 100000 in
theorem c_Mo_isMember {l : Launch} {D : va_G} {kA : Nat → ClassId} : ct_ok l D kA GM y_Mo_isMember z_Mo_isMember e_Mo_isMember := chk_all_ok (FT := FT_Mo) (PT := PT_Mo) (CT := t_Mo_isMember_ct) (KT := KT_Mo) (AN := n_Mo_isMember_an) 3 200 (by decide +kernel) ⟨FT_Mo_ok, PT_Mo_ok, List.forall_mem_nil _, KT_Mo_ok⟩ (by decide +kernel)
abbrev b_Mo_longOf : ByteArray := prog_15_method_20_code
def y_Mo_longOf : MethodName := ⟨"DrawingHouseModel", "longOf", "(I)I"⟩
abbrev z_Mo_longOf : List Cond := Cond.code y_Mo_longOf b_Mo_longOf 2 (some .int) :: lw_g
def e_Mo_longOf : en_T := ([(2, 0, 0, [0]), (0, 0, 23, [])], some (0, 0, 8, []), true, 1, 0, 0, [([(2, 0, 0, [0]), (0, 0, 23, []), (0, 0, 8, [])], [], [2], [], [], [])])
def n_Mo_longOf_an : List an_T := []
def t_Mo_longOf_ct : ct_L := []
set_option maxRecDepth 100000 in
theorem c_Mo_longOf {l : Launch} {D : va_G} {kA : Nat → ClassId} : ct_ok l D kA GM y_Mo_longOf z_Mo_longOf e_Mo_longOf := chk_all_ok (FT := FT_Mo) (PT := PT_Mo) (CT := t_Mo_longOf_ct) (KT := KT_Mo) (AN := n_Mo_longOf_an) 0 200 (by decide +kernel) ⟨FT_Mo_ok, PT_Mo_ok, List.forall_mem_nil _, KT_Mo_ok⟩ (by decide +kernel)
abbrev b_Mo_max : ByteArray := prog_15_method_4_code
def y_Mo_max : MethodName := ⟨"DrawingHouseModel", "max", "(II)I"⟩
abbrev z_Mo_max : List Cond := Cond.code y_Mo_max b_Mo_max 2 (some .int) :: lw_g
def e_Mo_max : en_T := ([(0, -2147483648, 1000011, []), (0, -2147483648, 1000011, [])], some (0, -2147483648, 1000011, []), true, 1, 0, 0, [([(0, -2147483648, 1000011, []), (0, -2147483648, 1000011, [])], [], [1], [], [(0, 1, -1000000000000, 0)], []), ([(0, -2147483647, 1000011, []), (0, -2147483648, 1000010, [])], [], [0], [], [(0, 1, 1, 1000000000000)], [])])
def n_Mo_max_an : List an_T := []
def t_Mo_max_ct : ct_L := []
set_option maxRecDepth 100000 in
theorem c_Mo_max {l : Launch} {D : va_G} {kA : Nat → ClassId} : ct_ok l D kA GM y_Mo_max z_Mo_max e_Mo_max := chk_all_ok (FT := FT_Mo) (PT := PT_Mo) (CT := t_Mo_max_ct) (KT := KT_Mo) (AN := n_Mo_max_an) 0 200 (by decide +kernel) ⟨FT_Mo_ok, PT_Mo_ok, List.forall_mem_nil _, KT_Mo_ok⟩ (by decide +kernel)
abbrev b_Mo_min : ByteArray := prog_15_method_5_code
def y_Mo_min : MethodName := ⟨"DrawingHouseModel", "min", "(II)I"⟩
abbrev z_Mo_min : List Cond := Cond.code y_Mo_min b_Mo_min 2 (some .int) :: lw_g
def e_Mo_min : en_T := ([(0, -2147483648, 2097151, []), (0, -2147483648, 2147483647, [])], some (0, -2147483648, 2097151, []), true, 1, 0, 0, [([(0, -2147483648, 2097151, []), (0, -2147483648, 2097151, [])], [], [1], [], [(0, 1, 0, 1000000000000)], []), ([(0, -2147483648, 2097151, []), (0, -2147483647, 2147483647, [])], [], [0], [], [(0, 1, -1000000000000, -1)], [])])
def n_Mo_min_an : List an_T := []
def t_Mo_min_ct : ct_L := []
set_option maxRecDepth 100000 in
theorem c_Mo_min {l : Launch} {D : va_G} {kA : Nat → ClassId} : ct_ok l D kA GM y_Mo_min z_Mo_min e_Mo_min := chk_all_ok (FT := FT_Mo) (PT := PT_Mo) (CT := t_Mo_min_ct) (KT := KT_Mo) (AN := n_Mo_min_an) 0 200 (by decide +kernel) ⟨FT_Mo_ok, PT_Mo_ok, List.forall_mem_nil _, KT_Mo_ok⟩ (by decide +kernel)
abbrev b_Mo_nodes : ByteArray := prog_15_method_11_code
def y_Mo_nodes : MethodName := ⟨"DrawingHouseModel", "nodes", "()I"⟩
abbrev z_Mo_nodes : List Cond := Cond.code y_Mo_nodes b_Mo_nodes 1 (some .int) :: lw_g
def e_Mo_nodes : en_T := ([(2, 0, 0, [0])], some (0, 0, 24, []), true, 1, 0, 0, [([(2, 0, 0, [0]), (0, 0, 24, [])], [], [1], [], [], [])])
def n_Mo_nodes_an : List an_T := []
def t_Mo_nodes_ct : ct_L := []
set_option maxRecDepth 100000 in
theorem c_Mo_nodes {l : Launch} {D : va_G} {kA : Nat → ClassId} : ct_ok l D kA GM y_Mo_nodes z_Mo_nodes e_Mo_nodes := chk_all_ok (FT := FT_Mo) (PT := PT_Mo) (CT := t_Mo_nodes_ct) (KT := KT_Mo) (AN := n_Mo_nodes_an) 0 200 (by decide +kernel) ⟨FT_Mo_ok, PT_Mo_ok, List.forall_mem_nil _, KT_Mo_ok⟩ (by decide +kernel)
abbrev b_Mo_one : ByteArray := prog_15_method_17_code
def y_Mo_one : MethodName := ⟨"DrawingHouseModel", "one", "(I)I"⟩
abbrev z_Mo_one : List Cond := Cond.code y_Mo_one b_Mo_one 2 (some .int) :: lw_g
def e_Mo_one : en_T := ([(2, 0, 0, [0]), (0, 0, 47, [])], some (0, 0, 1, []), true, 1, 0, 0, [([(2, 0, 0, [0]), (0, 0, 47, []), (0, 0, 1, [])], [], [2], [], [], [])])
def n_Mo_one_an : List an_T := []
def t_Mo_one_ct : ct_L := []
set_option maxRecDepth 100000 in
theorem c_Mo_one {l : Launch} {D : va_G} {kA : Nat → ClassId} : ct_ok l D kA GM y_Mo_one z_Mo_one e_Mo_one := chk_all_ok (FT := FT_Mo) (PT := PT_Mo) (CT := t_Mo_one_ct) (KT := KT_Mo) (AN := n_Mo_one_an) 0 200 (by decide +kernel) ⟨FT_Mo_ok, PT_Mo_ok, List.forall_mem_nil _, KT_Mo_ok⟩ (by decide +kernel)
abbrev b_Mo_px : ByteArray := prog_15_method_181_code
def y_Mo_px : MethodName := ⟨"DrawingHouseModel", "px", "(I)I"⟩
abbrev z_Mo_px : List Cond := Cond.code y_Mo_px b_Mo_px 2 (some .int) :: lw_g
def e_Mo_px : en_T := ([(2, 0, 0, [0]), (0, 0, 23, [])], some (0, -2147483648, 1000000, []), true, 1, 0, 0, [([(2, 0, 0, [0]), (0, 0, 23, []), (0, -2147483648, 1000000, [])], [], [2], [], [], [])])
def n_Mo_px_an : List an_T := []
def t_Mo_px_ct : ct_L := []
set_option maxRecDepth 100000 in
theorem c_Mo_px {l : Launch} {D : va_G} {kA : Nat → ClassId} : ct_ok l D kA GM y_Mo_px z_Mo_px e_Mo_px := chk_all_ok (FT := FT_Mo) (PT := PT_Mo) (CT := t_Mo_px_ct) (KT := KT_Mo) (AN := n_Mo_px_an) 0 200 (by decide +kernel) ⟨FT_Mo_ok, PT_Mo_ok, List.forall_mem_nil _, KT_Mo_ok⟩ (by decide +kernel)
abbrev b_Mo_py : ByteArray := prog_15_method_182_code
def y_Mo_py : MethodName := ⟨"DrawingHouseModel", "py", "(I)I"⟩
abbrev z_Mo_py : List Cond := Cond.code y_Mo_py b_Mo_py 2 (some .int) :: lw_g
def e_Mo_py : en_T := ([(2, 0, 0, [0]), (0, 0, 23, [])], some (0, -2147483648, 1000000, []), true, 1, 0, 0, [([(2, 0, 0, [0]), (0, 0, 23, []), (0, -2147483648, 1000000, [])], [], [2], [], [], [])])
def n_Mo_py_an : List an_T := []
def t_Mo_py_ct : ct_L := []
set_option maxRecDepth 100000 in
theorem c_Mo_py {l : Launch} {D : va_G} {kA : Nat → ClassId} : ct_ok l D kA GM y_Mo_py z_Mo_py e_Mo_py := chk_all_ok (FT := FT_Mo) (PT := PT_Mo) (CT := t_Mo_py_ct) (KT := KT_Mo) (AN := n_Mo_py_an) 0 200 (by decide +kernel) ⟨FT_Mo_ok, PT_Mo_ok, List.forall_mem_nil _, KT_Mo_ok⟩ (by decide +kernel)
abbrev b_Mo_rowOf : ByteArray := prog_15_method_7_code
def y_Mo_rowOf : MethodName := ⟨"DrawingHouseModel", "rowOf", "(II)I"⟩
abbrev z_Mo_rowOf : List Cond := Cond.code y_Mo_rowOf b_Mo_rowOf 2 (some .int) :: lw_g
def e_Mo_rowOf : en_T := ([(0, 0, 3, []), (0, 0, 30, [])], some (5, 0, 66297, [539]), true, 1, 0, 0, [([(0, 0, 3, []), (0, 0, 30, []), (0, 0, 66297, [])], [], [2], [], [], [(2, 539)])])
def n_Mo_rowOf_an : List an_T := []
def t_Mo_rowOf_ct : ct_L := []
set_option maxRecDepth 100000 in
theorem c_Mo_rowOf {l : Launch} {D : va_G} {kA : Nat → ClassId} : ct_ok l D kA GM y_Mo_rowOf z_Mo_rowOf e_Mo_rowOf := chk_all_ok (FT := FT_Mo) (PT := PT_Mo) (CT := t_Mo_rowOf_ct) (KT := KT_Mo) (AN := n_Mo_rowOf_an) 0 200 (by decide +kernel) ⟨FT_Mo_ok, PT_Mo_ok, List.forall_mem_nil _, KT_Mo_ok⟩ (by decide +kernel)
abbrev b_Mo_setBox : ByteArray := prog_15_method_166_code
def y_Mo_setBox : MethodName := ⟨"DrawingHouseModel", "setBox", "(IIZIIII)V"⟩
abbrev z_Mo_setBox : List Cond := Cond.code y_Mo_setBox b_Mo_setBox 10 none :: lw_g
def e_Mo_setBox : en_T := ([(2, 0, 0, [0]), (0, 0, 3, []), (0, 0, 0, []), (0, 1, 1, []), (0, 0, 0, []), (0, 0, 0, []), (0, 8, 512, []), (0, 8, 512, [])], none, false, 1, 0, 0, [])
def n_Mo_setBox_an : List an_T := []
def t_Mo_setBox_ct : ct_L := []
set_option maxRecDepth 100000 in
theorem c_Mo_setBox {l : Launch} {D : va_G} {kA : Nat → ClassId} : ct_ok l D kA GM y_Mo_setBox z_Mo_setBox e_Mo_setBox := chk_all_ok (FT := FT_Mo) (PT := PT_Mo) (CT := t_Mo_setBox_ct) (KT := KT_Mo) (AN := n_Mo_setBox_an) 0 200 (by decide +kernel) ⟨FT_Mo_ok, PT_Mo_ok, List.forall_mem_nil _, KT_Mo_ok⟩ (by decide +kernel)
abbrev b_Mo_signOf : ByteArray := prog_15_method_199_code
def y_Mo_signOf : MethodName := ⟨"DrawingHouseModel", "signOf", "(J)I"⟩
abbrev z_Mo_signOf : List Cond := Cond.code y_Mo_signOf b_Mo_signOf 2 (some .int) :: lw_g
def e_Mo_signOf : en_T := ([(1, -9223372036854775808, 9223372036854775807, [])], some (0, -1, 1, []), true, 1, 0, 0, [([(1, -9223372036854775808, 9223372036854775807, []), (0, 0, 0, [])], [], [1], [], [], []), ([(1, -9223372036854775808, 9223372036854775807, []), (0, -1, -1, [])], [], [1], [], [], []), ([(1, -9223372036854775808, 9223372036854775807, []), (0, 1, 1, [])], [], [1], [], [], [])])
def n_Mo_signOf_an : List an_T := []
def t_Mo_signOf_ct : ct_L := []
set_option maxRecDepth 100000 in
theorem c_Mo_signOf {l : Launch} {D : va_G} {kA : Nat → ClassId} : ct_ok l D kA GM y_Mo_signOf z_Mo_signOf e_Mo_signOf := chk_all_ok (FT := FT_Mo) (PT := PT_Mo) (CT := t_Mo_signOf_ct) (KT := KT_Mo) (AN := n_Mo_signOf_an) 0 200 (by decide +kernel) ⟨FT_Mo_ok, PT_Mo_ok, List.forall_mem_nil _, KT_Mo_ok⟩ (by decide +kernel)
abbrev b_Mo_size : ByteArray := prog_15_method_18_code
def y_Mo_size : MethodName := ⟨"DrawingHouseModel", "size", "(I)I"⟩
abbrev z_Mo_size : List Cond := Cond.code y_Mo_size b_Mo_size 2 (some .int) :: lw_g
def e_Mo_size : en_T := ([(2, 0, 0, [0]), (0, 0, 23, [])], some (0, 0, 99, []), true, 1, 0, 0, [([(2, 0, 0, [0]), (0, 0, 23, []), (0, 0, 99, [])], [], [2], [], [], [])])
def n_Mo_size_an : List an_T := []
def t_Mo_size_ct : ct_L := []
set_option maxRecDepth 100000 in
theorem c_Mo_size {l : Launch} {D : va_G} {kA : Nat → ClassId} : ct_ok l D kA GM y_Mo_size z_Mo_size e_Mo_size := chk_all_ok (FT := FT_Mo) (PT := PT_Mo) (CT := t_Mo_size_ct) (KT := KT_Mo) (AN := n_Mo_size_an) 0 200 (by decide +kernel) ⟨FT_Mo_ok, PT_Mo_ok, List.forall_mem_nil _, KT_Mo_ok⟩ (by decide +kernel)
abbrev b_Mo_turnOf : ByteArray := prog_15_method_198_code
def y_Mo_turnOf : MethodName := ⟨"DrawingHouseModel", "turnOf", "(JJJJJJ)J"⟩
abbrev z_Mo_turnOf : List Cond := Cond.code y_Mo_turnOf b_Mo_turnOf 12 (some .long) :: lw_g
def e_Mo_turnOf : en_T := ([(1, -2147483648, 1000000, []), (1, -2147483648, 1000000, []), (1, -2147483648, 1000000, []), (1, -2147483648, 1000000, []), (1, -2147483648, 1000000, []), (1, -2147483648, 1000000, [])], some (1, -9223372036854775808, 9223372036854775807, []), true, 1, 0, 0, [([(1, -2147483648, 1000000, []), (1, -2147483648, 1000000, []), (1, -2147483648, 1000000, []), (1, -2147483648, 1000000, []), (1, -2147483648, 1000000, []), (1, -2147483648, 1000000, []), (1, -9223372036854775808, 9223372036854775807, [])], [], [6], [], [], [])])
def n_Mo_turnOf_an : List an_T := []
def t_Mo_turnOf_ct : ct_L := []
set_option maxRecDepth 100000 in
theorem c_Mo_turnOf {l : Launch} {D : va_G} {kA : Nat → ClassId} : ct_ok l D kA GM y_Mo_turnOf z_Mo_turnOf e_Mo_turnOf := chk_all_ok (FT := FT_Mo) (PT := PT_Mo) (CT := t_Mo_turnOf_ct) (KT := KT_Mo) (AN := n_Mo_turnOf_an) 0 200 (by decide +kernel) ⟨FT_Mo_ok, PT_Mo_ok, List.forall_mem_nil _, KT_Mo_ok⟩ (by decide +kernel)
abbrev b_Mo_dot : ByteArray := prog_15_method_246_code
def y_Mo_dot : MethodName := ⟨"DrawingHouseModel", "dot", "(II)I"⟩
abbrev z_Mo_dot : List Cond := Cond.code y_Mo_dot b_Mo_dot 3 (some .int) :: lw_g
def e_Mo_dot : en_T := ([(2, 0, 0, [0]), (0, -2147483648, 2147483647, []), (0, -2147483648, 2147483647, [])], some (0, -1, 0, []), true, 2, 0, 0, [([(2, 0, 0, [0]), (0, -2147483648, -1, []), (0, -2147483648, 2147483647, []), (0, -1, -1, [])], [], [3], [], [], []), ([(2, 0, 0, [0]), (0, 0, 2147483647, []), (0, -2147483648, 2147483647, []), (0, -1, -1, [])], [], [3], [], [], []), ([(2, 0, 0, [0]), (0, 0, 63, []), (0, -2147483648, -1, []), (0, -1, -1, [])], [], [3], [], [], []), ([(2, 0, 0, [0]), (0, 0, 63, []), (0, 0, 2147483647, []), (0, -1, -1, [])], [], [3], [], [], []), ([(2, 0, 0, [0]), (0, 0, 63, []), (0, 0, 63, []), (0, 0, 0, [])], [], [3], [], [], [])])
def n_Mo_dot_an : List an_T := []
def t_Mo_dot_ct : ct_L := [(0, 387, e_Mo_in)]
set_option maxRecDepth 100000 in
theorem c_Mo_dot {l : Launch} {D : va_G} {kA : Nat → ClassId} : ct_ok l D kA GM y_Mo_dot z_Mo_dot e_Mo_dot := chk_all_ok (FT := FT_Mo) (PT := PT_Mo) (CT := t_Mo_dot_ct) (KT := KT_Mo) (AN := n_Mo_dot_an) 0 200 (by decide +kernel) ⟨FT_Mo_ok, PT_Mo_ok, List.forall_mem_cons.mpr ⟨cl_static (y := y_Mo_in) c_Mo_in wm_2971 wm_9 wm_2969 wm_2970 ⟨by decide, by decide, by decide +kernel⟩ (by decide), List.forall_mem_nil _⟩, KT_Mo_ok⟩ (by decide +kernel)
abbrev b_Mo_fault : ByteArray := prog_15_method_24_code
def y_Mo_fault : MethodName := ⟨"DrawingHouseModel", "fault", "(I)I"⟩
abbrev z_Mo_fault : List Cond := Cond.code y_Mo_fault b_Mo_fault 2 (some .int) :: lw_g
def e_Mo_fault : en_T := ([(2, 0, 0, [0]), (0, -2147483648, 2147483647, [])], some (0, -1, 2000, []), true, 2, 0, 0, [([(2, 0, 0, [0]), (0, -2147483648, 2147483647, []), (0, -1, -1, [])], [], [2], [], [], []), ([(2, 0, 0, [0]), (0, -2147483648, -1, []), (0, -1, -1, [])], [], [2], [], [], []), ([(2, 0, 0, [0]), (0, 2, 2147483647, []), (0, -1, -1, [])], [], [2], [], [], []), ([(2, 0, 0, [0]), (0, 1, 1, []), (0, 0, 2000, [])], [], [2], [], [], []), ([(2, 0, 0, [0]), (0, 1, 1, []), (0, -1, -1, [])], [], [2], [], [], []), ([(2, 0, 0, [0]), (0, 0, 0, []), (0, 0, 5, [])], [], [2], [], [], [])])
def n_Mo_fault_an : List an_T := []
def t_Mo_fault_ct : ct_L := [(0, 387, e_Mo_in)]
set_option maxRecDepth 100000 in
theorem c_Mo_fault {l : Launch} {D : va_G} {kA : Nat → ClassId} : ct_ok l D kA GM y_Mo_fault z_Mo_fault e_Mo_fault := chk_all_ok (FT := FT_Mo) (PT := PT_Mo) (CT := t_Mo_fault_ct) (KT := KT_Mo) (AN := n_Mo_fault_an) 0 200 (by decide +kernel) ⟨FT_Mo_ok, PT_Mo_ok, List.forall_mem_cons.mpr ⟨cl_static (y := y_Mo_in) c_Mo_in wm_2971 wm_9 wm_2969 wm_2970 ⟨by decide, by decide, by decide +kernel⟩ (by decide), List.forall_mem_nil _⟩, KT_Mo_ok⟩ (by decide +kernel)
abbrev b_Mo_isPlace : ByteArray := prog_15_method_9_code
def y_Mo_isPlace : MethodName := ⟨"DrawingHouseModel", "isPlace", "(I)Z"⟩
abbrev z_Mo_isPlace : List Cond := Cond.code y_Mo_isPlace b_Mo_isPlace 1 (some .boolean) :: lw_g
def e_Mo_isPlace : en_T := ([(0, -2147483648, 2147483647, [])], some (0, 0, 1, []), true, 2, 0, 0, [([(0, -2147483648, -1, []), (0, 0, 0, [])], [], [1], [], [], []), ([(0, 4, 2147483647, []), (0, 0, 0, [])], [], [1], [], [], []), ([(0, 0, 3, []), (0, 1, 1, [])], [], [1], [], [], [])])
def n_Mo_isPlace_an : List an_T := []
def t_Mo_isPlace_ct : ct_L := [(0, 387, e_Mo_in)]
set_option maxRecDepth 100000 in
theorem c_Mo_isPlace {l : Launch} {D : va_G} {kA : Nat → ClassId} : ct_ok l D kA GM y_Mo_isPlace z_Mo_isPlace e_Mo_isPlace := chk_all_ok (FT := FT_Mo) (PT := PT_Mo) (CT := t_Mo_isPlace_ct) (KT := KT_Mo) (AN := n_Mo_isPlace_an) 0 200 (by decide +kernel) ⟨FT_Mo_ok, PT_Mo_ok, List.forall_mem_cons.mpr ⟨cl_static (y := y_Mo_in) c_Mo_in wm_2971 wm_9 wm_2969 wm_2970 ⟨by decide, by decide, by decide +kernel⟩ (by decide), List.forall_mem_nil _⟩, KT_Mo_ok⟩ (by decide +kernel)
abbrev b_Mo_join : ByteArray := prog_15_method_67_code
def y_Mo_join : MethodName := ⟨"DrawingHouseModel", "join", "(II)V"⟩
abbrev z_Mo_join : List Cond := Cond.code y_Mo_join b_Mo_join 4 none :: lw_g
def e_Mo_join : en_T := ([(2, 0, 0, [0]), (0, -1, 79, []), (0, -1, 79, [])], none, false, 2, 0, 0, [])
def n_Mo_join_an : List an_T := [(8, [(0, (2, 0, 0, [0])), (1, (0, -1, 79, [])), (2, (0, -1, 79, [])), (3, (0, 0, 2147483647, []))], [], (0, 0), [(0, 0, 99992), (1, 3, 2147483647), (0, 0, 100000)], [], [])]
def t_Mo_join_ct : ct_L := [(0, 547, e_Mo_min)]
set_option maxRecDepth 100000 in
theorem c_Mo_join {l : Launch} {D : va_G} {kA : Nat → ClassId} : ct_ok l D kA GM y_Mo_join z_Mo_join e_Mo_join := chk_all_ok (FT := FT_Mo) (PT := PT_Mo) (CT := t_Mo_join_ct) (KT := KT_Mo) (AN := n_Mo_join_an) 3 200 (by decide +kernel) ⟨FT_Mo_ok, PT_Mo_ok, List.forall_mem_cons.mpr ⟨cl_static (y := y_Mo_min) c_Mo_min wm_3174 wm_9 wm_3172 wm_3173 ⟨by decide, by decide, by decide +kernel⟩ (by decide), List.forall_mem_nil _⟩, KT_Mo_ok⟩ (by decide +kernel)
abbrev b_Mo_map : ByteArray := prog_15_method_61_code
def y_Mo_map : MethodName := ⟨"DrawingHouseModel", "map", "(I)I"⟩
abbrev z_Mo_map : List Cond := Cond.code y_Mo_map b_Mo_map 2 (some .int) :: lw_g
def e_Mo_map : en_T := ([(2, 0, 0, [0]), (0, -2147483648, 2147483647, [])], some (0, -1, 20000, []), true, 2, 0, 0, [([(2, 0, 0, [0]), (0, -2147483648, 2147483647, []), (0, -1, -1, [])], [], [2], [], [], []), ([(2, 0, 0, [0]), (0, -2147483648, -1, []), (0, -1, -1, [])], [], [2], [], [], []), ([(2, 0, 0, [0]), (0, 0, 2147483647, []), (0, -1, -1, [])], [], [2], [], [], []), ([(2, 0, 0, [0]), (0, 0, 23, []), (0, 0, 23, [])], [], [2], [], [], []), ([(2, 0, 0, [0]), (0, -1, -1, []), (0, -1, -1, [])], [], [2], [], [], []), ([(2, 0, 0, [0]), (0, -1, -1, []), (0, 0, 20000, [])], [], [2], [], [], [])])
def n_Mo_map_an : List an_T := []
def t_Mo_map_ct : ct_L := [(0, 387, e_Mo_in)]
set_option maxRecDepth 100000 in
theorem c_Mo_map {l : Launch} {D : va_G} {kA : Nat → ClassId} : ct_ok l D kA GM y_Mo_map z_Mo_map e_Mo_map := chk_all_ok (FT := FT_Mo) (PT := PT_Mo) (CT := t_Mo_map_ct) (KT := KT_Mo) (AN := n_Mo_map_an) 0 200 (by decide +kernel) ⟨FT_Mo_ok, PT_Mo_ok, List.forall_mem_cons.mpr ⟨cl_static (y := y_Mo_in) c_Mo_in wm_2971 wm_9 wm_2969 wm_2970 ⟨by decide, by decide, by decide +kernel⟩ (by decide), List.forall_mem_nil _⟩, KT_Mo_ok⟩ (by decide +kernel)
abbrev b_Mo_octet : ByteArray := prog_15_method_241_code
def y_Mo_octet : MethodName := ⟨"DrawingHouseModel", "octet", "(I)I"⟩
abbrev z_Mo_octet : List Cond := Cond.code y_Mo_octet b_Mo_octet 2 (some .int) :: lw_g
def e_Mo_octet : en_T := ([(2, 0, 0, [0]), (0, -2147483648, 2147483647, [])], some (0, -128, 127, []), true, 2, 0, 0, [([(2, 0, 0, [0]), (0, -2147483648, -1, []), (0, -1, -1, [])], [], [2], [], [], []), ([(2, 0, 0, [0]), (0, 0, 2147483647, []), (0, -1, -1, [])], [], [2], [], [], []), ([(2, 0, 0, [0]), (0, 0, 3999, []), (0, -128, 127, [])], [], [2], [], [], [])])
def n_Mo_octet_an : List an_T := []
def t_Mo_octet_ct : ct_L := [(0, 387, e_Mo_in)]
set_option maxRecDepth 100000 in
theorem c_Mo_octet {l : Launch} {D : va_G} {kA : Nat → ClassId} : ct_ok l D kA GM y_Mo_octet z_Mo_octet e_Mo_octet := chk_all_ok (FT := FT_Mo) (PT := PT_Mo) (CT := t_Mo_octet_ct) (KT := KT_Mo) (AN := n_Mo_octet_an) 0 200 (by decide +kernel) ⟨FT_Mo_ok, PT_Mo_ok, List.forall_mem_cons.mpr ⟨cl_static (y := y_Mo_in) c_Mo_in wm_2971 wm_9 wm_2969 wm_2970 ⟨by decide, by decide, by decide +kernel⟩ (by decide), List.forall_mem_nil _⟩, KT_Mo_ok⟩ (by decide +kernel)
abbrev b_Mo_take : ByteArray := prog_15_method_10_code
def y_Mo_take : MethodName := ⟨"DrawingHouseModel", "take", "(I)V"⟩
abbrev z_Mo_take : List Cond := Cond.code y_Mo_take b_Mo_take 2 none :: lw_g
def e_Mo_take : en_T := ([(2, 0, 0, [0]), (0, 0, 3, [])], none, false, 2, 0, 0, [])
def n_Mo_take_an : List an_T := []
def t_Mo_take_ct : ct_L := [(0, 372, e_Mo_rowOf)]
set_option maxRecDepth 100000 in
theorem c_Mo_take {l : Launch} {D : va_G} {kA : Nat → ClassId} : ct_ok l D kA GM y_Mo_take z_Mo_take e_Mo_take := chk_all_ok (FT := FT_Mo) (PT := PT_Mo) (CT := t_Mo_take_ct) (KT := KT_Mo) (AN := n_Mo_take_an) 0 200 (by decide +kernel) ⟨FT_Mo_ok, PT_Mo_ok, List.forall_mem_cons.mpr ⟨cl_static (y := y_Mo_rowOf) c_Mo_rowOf wm_2420 wm_9 wm_2418 wm_2419 ⟨by decide, by decide, by decide +kernel⟩ (by decide), List.forall_mem_nil _⟩, KT_Mo_ok⟩ (by decide +kernel)
abbrev b_Mo_worst : ByteArray := prog_15_method_169_code
def y_Mo_worst : MethodName := ⟨"DrawingHouseModel", "worst", "(IIIIII)V"⟩
abbrev z_Mo_worst : List Cond := Cond.code y_Mo_worst b_Mo_worst 20 none :: lw_g
def e_Mo_worst : en_T := ([(2, 0, 0, [0]), (0, 0, 0, []), (0, 1, 1, []), (0, -2147483648, 2147483647, []), (0, -2147483648, 2147483647, []), (0, 0, 512, []), (0, 0, 512, [])], none, false, 2, 0, 0, [])
def n_Mo_worst_an : List an_T := [(31, [(0, (2, 0, 0, [0])), (1, (0, 0, 0, [])), (2, (0, 1, 1, [])), (3, (0, -2147483648, 2147483647, [])), (4, (0, -2147483648, 2147483647, [])), (5, (0, 0, 512, [])), (6, (0, 0, 512, [])), (7, (1, 0, 512, [])), (9, (1, 0, 512, [])), (11, (0, 0, 1, []))], [], (0, 0), [(0, 0, 99969), (1, 9, 1), (0, 0, 100000)], [], [])]
def t_Mo_worst_ct : ct_L := [(0, 855, e_Mo_max)]
set_option maxRecDepth 100000 in
theorem c_Mo_worst {l : Launch} {D : va_G} {kA : Nat → ClassId} : ct_ok l D kA GM y_Mo_worst z_Mo_worst e_Mo_worst := chk_all_ok (FT := FT_Mo) (PT := PT_Mo) (CT := t_Mo_worst_ct) (KT := KT_Mo) (AN := n_Mo_worst_an) 3 660 (by decide +kernel) ⟨FT_Mo_ok, PT_Mo_ok, List.forall_mem_cons.mpr ⟨cl_static (y := y_Mo_max) c_Mo_max wm_3430 wm_9 wm_3428 wm_3429 ⟨by decide, by decide, by decide +kernel⟩ (by decide), List.forall_mem_nil _⟩, KT_Mo_ok⟩ (by decide +kernel)
abbrev b_Mo_bound : ByteArray := prog_15_method_209_code
def y_Mo_bound : MethodName := ⟨"DrawingHouseModel", "bound", "(II)V"⟩
abbrev z_Mo_bound : List Cond := Cond.code y_Mo_bound b_Mo_bound 3 none :: lw_g
def e_Mo_bound : en_T := ([(2, 0, 0, [0]), (0, -2147483648, 1000000, []), (0, -2147483648, 1000000, [])], none, false, 2, 0, 0, [])
def n_Mo_bound_an : List an_T := []
def t_Mo_bound_ct : ct_L := [(0, 547, e_Mo_min), (0, 855, e_Mo_max)]
set_option maxRecDepth 100000 in
theorem c_Mo_bound {l : Launch} {D : va_G} {kA : Nat → ClassId} : ct_ok l D kA GM y_Mo_bound z_Mo_bound e_Mo_bound := chk_all_ok (FT := FT_Mo) (PT := PT_Mo) (CT := t_Mo_bound_ct) (KT := KT_Mo) (AN := n_Mo_bound_an) 0 484 (by decide +kernel) ⟨FT_Mo_ok, PT_Mo_ok, List.forall_mem_cons.mpr ⟨cl_static (y := y_Mo_min) c_Mo_min wm_3174 wm_9 wm_3172 wm_3173 ⟨by decide, by decide, by decide +kernel⟩ (by decide), List.forall_mem_cons.mpr ⟨cl_static (y := y_Mo_max) c_Mo_max wm_3430 wm_9 wm_3428 wm_3429 ⟨by decide, by decide, by decide +kernel⟩ (by decide), List.forall_mem_nil _⟩⟩, KT_Mo_ok⟩ (by decide +kernel)
abbrev b_Mo_isDrawn : ByteArray := prog_15_method_180_code
def y_Mo_isDrawn : MethodName := ⟨"DrawingHouseModel", "isDrawn", "(I)Z"⟩
abbrev z_Mo_isDrawn : List Cond := Cond.code y_Mo_isDrawn b_Mo_isDrawn 2 (some .boolean) :: lw_g
def e_Mo_isDrawn : en_T := ([(2, 0, 0, [0]), (0, -2147483648, 2147483647, [])], some (0, 0, 1, []), false, 3, 0, 0, [])
def n_Mo_isDrawn_an : List an_T := []
def t_Mo_isDrawn_ct : ct_L := [(0, 521, e_Mo_isPlace), (1, 527, e_Mo_take)]
set_option maxRecDepth 100000 in
theorem c_Mo_isDrawn {l : Launch} {D : va_G} {kA : Nat → ClassId} : ct_ok l D kA GM y_Mo_isDrawn z_Mo_isDrawn e_Mo_isDrawn := chk_all_ok (FT := FT_Mo) (PT := PT_Mo) (CT := t_Mo_isDrawn_ct) (KT := KT_Mo) (AN := n_Mo_isDrawn_an) 0 200 (by decide +kernel) ⟨FT_Mo_ok, PT_Mo_ok, List.forall_mem_cons.mpr ⟨cl_static (y := y_Mo_isPlace) c_Mo_isPlace wm_2978 wm_9 wm_2976 wm_2977 ⟨by decide, by decide, by decide +kernel⟩ (by decide), List.forall_mem_cons.mpr ⟨cl_virtual (y := y_Mo_take) (ci := 13) rfl rfl ⟨_, _, rfl⟩ (by decide +kernel) c_Mo_take wm_3091 wm_9 wm_3088 wm_3090 wv_14_2 ⟨by decide, by decide, by decide +kernel⟩ (by decide), List.forall_mem_nil _⟩⟩, KT_Mo_ok⟩ (by decide +kernel)
abbrev b_Mo_at2 : ByteArray := prog_15_method_108_code
def y_Mo_at2 : MethodName := ⟨"DrawingHouseModel", "at", "(IIII)I"⟩
abbrev z_Mo_at2 : List Cond := Cond.code y_Mo_at2 b_Mo_at2 6 (some .int) :: lw_g
def e_Mo_at2 : en_T := ([(2, 0, 0, [0]), (0, -2147483648, 2147483647, []), (0, -2147483648, 2147483647, []), (0, -2147483648, 2147483647, []), (0, -2147483648, 2147483647, [])], some (0, -2147483648, 1000000, []), false, 3, 0, 0, [])
def n_Mo_at2_an : List an_T := []
def t_Mo_at2_ct : ct_L := [(0, 387, e_Mo_in), (0, 521, e_Mo_isPlace), (1, 401, e_Mo_edges), (1, 475, e_Mo_nodes), (1, 527, e_Mo_take)]
set_option maxRecDepth 100000 in
theorem c_Mo_at2 {l : Launch} {D : va_G} {kA : Nat → ClassId} : ct_ok l D kA GM y_Mo_at2 z_Mo_at2 e_Mo_at2 := chk_all_ok (FT := FT_Mo) (PT := PT_Mo) (CT := t_Mo_at2_ct) (KT := KT_Mo) (AN := n_Mo_at2_an) 0 584 (by decide +kernel) ⟨FT_Mo_ok, PT_Mo_ok, List.forall_mem_cons.mpr ⟨cl_static (y := y_Mo_in) c_Mo_in wm_2971 wm_9 wm_2969 wm_2970 ⟨by decide, by decide, by decide +kernel⟩ (by decide), List.forall_mem_cons.mpr ⟨cl_static (y := y_Mo_isPlace) c_Mo_isPlace wm_2978 wm_9 wm_2976 wm_2977 ⟨by decide, by decide, by decide +kernel⟩ (by decide), List.forall_mem_cons.mpr ⟨cl_virtual (y := y_Mo_edges) (ci := 13) rfl rfl ⟨_, _, rfl⟩ (by decide +kernel) c_Mo_edges wm_3037 wm_9 wm_3034 wm_3036 wv_13_6 ⟨by decide, by decide, by decide +kernel⟩ (by decide), List.forall_mem_cons.mpr ⟨cl_virtual (y := y_Mo_nodes) (ci := 13) rfl rfl ⟨_, _, rfl⟩ (by decide +kernel) c_Mo_nodes wm_3025 wm_9 wm_3022 wm_3024 wv_13_3 ⟨by decide, by decide, by decide +kernel⟩ (by decide), List.forall_mem_cons.mpr ⟨cl_virtual (y := y_Mo_take) (ci := 13) rfl rfl ⟨_, _, rfl⟩ (by decide +kernel) c_Mo_take wm_3091 wm_9 wm_3088 wm_3090 wv_14_2 ⟨by decide, by decide, by decide +kernel⟩ (by decide), List.forall_mem_nil _⟩⟩⟩⟩⟩, KT_Mo_ok⟩ (by decide +kernel)
abbrev b_Mo_letter : ByteArray := prog_15_method_104_code
def y_Mo_letter : MethodName := ⟨"DrawingHouseModel", "letter", "(IIII)I"⟩
abbrev z_Mo_letter : List Cond := Cond.code y_Mo_letter b_Mo_letter 5 (some .int) :: lw_g
def e_Mo_letter : en_T := ([(2, 0, 0, [0]), (0, -2147483648, 2147483647, []), (0, -2147483648, 2147483647, []), (0, -2147483648, 2147483647, []), (0, -2147483648, 2147483647, [])], some (0, -1, 255, []), false, 3, 0, 0, [])
def n_Mo_letter_an : List an_T := []
def t_Mo_letter_ct : ct_L := [(0, 387, e_Mo_in), (0, 521, e_Mo_isPlace), (1, 475, e_Mo_nodes), (1, 509, e_Mo_groups), (1, 527, e_Mo_take)]
set_option maxRecDepth 100000 in
theorem c_Mo_letter {l : Launch} {D : va_G} {kA : Nat → ClassId} : ct_ok l D kA GM y_Mo_letter z_Mo_letter e_Mo_letter := chk_all_ok (FT := FT_Mo) (PT := PT_Mo) (CT := t_Mo_letter_ct) (KT := KT_Mo) (AN := n_Mo_letter_an) 0 528 (by decide +kernel) ⟨FT_Mo_ok, PT_Mo_ok, List.forall_mem_cons.mpr ⟨cl_static (y := y_Mo_in) c_Mo_in wm_2971 wm_9 wm_2969 wm_2970 ⟨by decide, by decide, by decide +kernel⟩ (by decide), List.forall_mem_cons.mpr ⟨cl_static (y := y_Mo_isPlace) c_Mo_isPlace wm_2978 wm_9 wm_2976 wm_2977 ⟨by decide, by decide, by decide +kernel⟩ (by decide), List.forall_mem_cons.mpr ⟨cl_virtual (y := y_Mo_nodes) (ci := 13) rfl rfl ⟨_, _, rfl⟩ (by decide +kernel) c_Mo_nodes wm_3025 wm_9 wm_3022 wm_3024 wv_13_3 ⟨by decide, by decide, by decide +kernel⟩ (by decide), List.forall_mem_cons.mpr ⟨cl_virtual (y := y_Mo_groups) (ci := 13) rfl rfl ⟨_, _, rfl⟩ (by decide +kernel) c_Mo_groups wm_3070 wm_9 wm_3067 wm_3069 wv_13_14 ⟨by decide, by decide, by decide +kernel⟩ (by decide), List.forall_mem_cons.mpr ⟨cl_virtual (y := y_Mo_take) (ci := 13) rfl rfl ⟨_, _, rfl⟩ (by decide +kernel) c_Mo_take wm_3091 wm_9 wm_3088 wm_3090 wv_14_2 ⟨by decide, by decide, by decide +kernel⟩ (by decide), List.forall_mem_nil _⟩⟩⟩⟩⟩, KT_Mo_ok⟩ (by decide +kernel)
abbrev b_Mo_put : ByteArray := prog_15_method_110_code
def y_Mo_put : MethodName := ⟨"DrawingHouseModel", "put", "(IIIII)Z"⟩
abbrev z_Mo_put : List Cond := Cond.code y_Mo_put b_Mo_put 6 (some .boolean) :: lw_g
def e_Mo_put : en_T := ([(2, 0, 0, [0]), (0, -2147483648, 2147483647, []), (0, -2147483648, 2147483647, []), (0, -2147483648, 2147483647, []), (0, -2147483648, 2147483647, []), (0, -2147483648, 2147483647, [])], some (0, 0, 1, []), false, 3, 0, 0, [])
def n_Mo_put_an : List an_T := []
def t_Mo_put_ct : ct_L := [(0, 387, e_Mo_in), (0, 521, e_Mo_isPlace), (1, 401, e_Mo_edges), (1, 475, e_Mo_nodes), (1, 527, e_Mo_take)]
set_option maxRecDepth 100000 in
theorem c_Mo_put {l : Launch} {D : va_G} {kA : Nat → ClassId} : ct_ok l D kA GM y_Mo_put z_Mo_put e_Mo_put := chk_all_ok (FT := FT_Mo) (PT := PT_Mo) (CT := t_Mo_put_ct) (KT := KT_Mo) (AN := n_Mo_put_an) 0 560 (by decide +kernel) ⟨FT_Mo_ok, PT_Mo_ok, List.forall_mem_cons.mpr ⟨cl_static (y := y_Mo_in) c_Mo_in wm_2971 wm_9 wm_2969 wm_2970 ⟨by decide, by decide, by decide +kernel⟩ (by decide), List.forall_mem_cons.mpr ⟨cl_static (y := y_Mo_isPlace) c_Mo_isPlace wm_2978 wm_9 wm_2976 wm_2977 ⟨by decide, by decide, by decide +kernel⟩ (by decide), List.forall_mem_cons.mpr ⟨cl_virtual (y := y_Mo_edges) (ci := 13) rfl rfl ⟨_, _, rfl⟩ (by decide +kernel) c_Mo_edges wm_3037 wm_9 wm_3034 wm_3036 wv_13_6 ⟨by decide, by decide, by decide +kernel⟩ (by decide), List.forall_mem_cons.mpr ⟨cl_virtual (y := y_Mo_nodes) (ci := 13) rfl rfl ⟨_, _, rfl⟩ (by decide +kernel) c_Mo_nodes wm_3025 wm_9 wm_3022 wm_3024 wv_13_3 ⟨by decide, by decide, by decide +kernel⟩ (by decide), List.forall_mem_cons.mpr ⟨cl_virtual (y := y_Mo_take) (ci := 13) rfl rfl ⟨_, _, rfl⟩ (by decide +kernel) c_Mo_take wm_3091 wm_9 wm_3088 wm_3090 wv_14_2 ⟨by decide, by decide, by decide +kernel⟩ (by decide), List.forall_mem_nil _⟩⟩⟩⟩⟩, KT_Mo_ok⟩ (by decide +kernel)
abbrev b_Mo_shade : ByteArray := prog_15_method_231_code
def y_Mo_shade : MethodName := ⟨"DrawingHouseModel", "shade", "(IIII)I"⟩
abbrev z_Mo_shade : List Cond := Cond.code y_Mo_shade b_Mo_shade 5 (some .int) :: lw_g
def e_Mo_shade : en_T := ([(2, 0, 0, [0]), (0, -2147483648, 2147483647, []), (0, -2147483648, 2147483647, []), (0, -2147483648, 2147483647, []), (0, -2147483648, 2147483647, [])], some (0, -1, 0, []), false, 3, 0, 0, [])
def n_Mo_shade_an : List an_T := []
def t_Mo_shade_ct : ct_L := [(0, 387, e_Mo_in), (0, 521, e_Mo_isPlace), (1, 401, e_Mo_edges), (1, 475, e_Mo_nodes), (1, 527, e_Mo_take)]
set_option maxRecDepth 100000 in
theorem c_Mo_shade {l : Launch} {D : va_G} {kA : Nat → ClassId} : ct_ok l D kA GM y_Mo_shade z_Mo_shade e_Mo_shade := chk_all_ok (FT := FT_Mo) (PT := PT_Mo) (CT := t_Mo_shade_ct) (KT := KT_Mo) (AN := n_Mo_shade_an) 0 396 (by decide +kernel) ⟨FT_Mo_ok, PT_Mo_ok, List.forall_mem_cons.mpr ⟨cl_static (y := y_Mo_in) c_Mo_in wm_2971 wm_9 wm_2969 wm_2970 ⟨by decide, by decide, by decide +kernel⟩ (by decide), List.forall_mem_cons.mpr ⟨cl_static (y := y_Mo_isPlace) c_Mo_isPlace wm_2978 wm_9 wm_2976 wm_2977 ⟨by decide, by decide, by decide +kernel⟩ (by decide), List.forall_mem_cons.mpr ⟨cl_virtual (y := y_Mo_edges) (ci := 13) rfl rfl ⟨_, _, rfl⟩ (by decide +kernel) c_Mo_edges wm_3037 wm_9 wm_3034 wm_3036 wv_13_6 ⟨by decide, by decide, by decide +kernel⟩ (by decide), List.forall_mem_cons.mpr ⟨cl_virtual (y := y_Mo_nodes) (ci := 13) rfl rfl ⟨_, _, rfl⟩ (by decide +kernel) c_Mo_nodes wm_3025 wm_9 wm_3022 wm_3024 wv_13_3 ⟨by decide, by decide, by decide +kernel⟩ (by decide), List.forall_mem_cons.mpr ⟨cl_virtual (y := y_Mo_take) (ci := 13) rfl rfl ⟨_, _, rfl⟩ (by decide +kernel) c_Mo_take wm_3091 wm_9 wm_3088 wm_3090 wv_14_2 ⟨by decide, by decide, by decide +kernel⟩ (by decide), List.forall_mem_nil _⟩⟩⟩⟩⟩, KT_Mo_ok⟩ (by decide +kernel)
abbrev b_Mo_told : ByteArray := prog_15_method_109_code
def y_Mo_told : MethodName := ⟨"DrawingHouseModel", "told", "(III)I"⟩
abbrev z_Mo_told : List Cond := Cond.code y_Mo_told b_Mo_told 6 (some .int) :: lw_g
def e_Mo_told : en_T := ([(2, 0, 0, [0]), (0, -2147483648, 2147483647, []), (0, -2147483648, 2147483647, []), (0, -2147483648, 2147483647, [])], some (0, -2147483648, 1000000, []), false, 3, 0, 0, [])
def n_Mo_told_an : List an_T := []
def t_Mo_told_ct : ct_L := [(0, 387, e_Mo_in), (0, 521, e_Mo_isPlace), (1, 401, e_Mo_edges), (1, 475, e_Mo_nodes), (1, 509, e_Mo_groups), (1, 527, e_Mo_take)]
set_option maxRecDepth 100000 in
theorem c_Mo_told {l : Launch} {D : va_G} {kA : Nat → ClassId} : ct_ok l D kA GM y_Mo_told z_Mo_told e_Mo_told := chk_all_ok (FT := FT_Mo) (PT := PT_Mo) (CT := t_Mo_told_ct) (KT := KT_Mo) (AN := n_Mo_told_an) 0 2280 (by decide +kernel) ⟨FT_Mo_ok, PT_Mo_ok, List.forall_mem_cons.mpr ⟨cl_static (y := y_Mo_in) c_Mo_in wm_2971 wm_9 wm_2969 wm_2970 ⟨by decide, by decide, by decide +kernel⟩ (by decide), List.forall_mem_cons.mpr ⟨cl_static (y := y_Mo_isPlace) c_Mo_isPlace wm_2978 wm_9 wm_2976 wm_2977 ⟨by decide, by decide, by decide +kernel⟩ (by decide), List.forall_mem_cons.mpr ⟨cl_virtual (y := y_Mo_edges) (ci := 13) rfl rfl ⟨_, _, rfl⟩ (by decide +kernel) c_Mo_edges wm_3037 wm_9 wm_3034 wm_3036 wv_13_6 ⟨by decide, by decide, by decide +kernel⟩ (by decide), List.forall_mem_cons.mpr ⟨cl_virtual (y := y_Mo_nodes) (ci := 13) rfl rfl ⟨_, _, rfl⟩ (by decide +kernel) c_Mo_nodes wm_3025 wm_9 wm_3022 wm_3024 wv_13_3 ⟨by decide, by decide, by decide +kernel⟩ (by decide), List.forall_mem_cons.mpr ⟨cl_virtual (y := y_Mo_groups) (ci := 13) rfl rfl ⟨_, _, rfl⟩ (by decide +kernel) c_Mo_groups wm_3070 wm_9 wm_3067 wm_3069 wv_13_14 ⟨by decide, by decide, by decide +kernel⟩ (by decide), List.forall_mem_cons.mpr ⟨cl_virtual (y := y_Mo_take) (ci := 13) rfl rfl ⟨_, _, rfl⟩ (by decide +kernel) c_Mo_take wm_3091 wm_9 wm_3088 wm_3090 wv_14_2 ⟨by decide, by decide, by decide +kernel⟩ (by decide), List.forall_mem_nil _⟩⟩⟩⟩⟩⟩, KT_Mo_ok⟩ (by decide +kernel)
