abbrev b_Mo_px : ByteArray := prog_15_method_181_code
def y_Mo_px : MethodName := ⟨"DrawingHouseModel", "px", "(I)I"⟩
abbrev z_Mo_px : List Cond := Cond.code y_Mo_px b_Mo_px 2 (some .int) :: lw_g
def e_Mo_px : en_T := ([(2, 0, 0, [139]), (0, 0, 23, [])], some (0, -2147483648, 2147483647, []), true, 1, 0, 0, [([(2, 0, 0, [139]), (0, 0, 23, []), (0, -2147483648, 2147483647, [])], [], [2], [], [], [])], [], [])
def n_Mo_px_an : List an_T := []
def t_Mo_px_ct : ct_L := []
set_option maxRecDepth 100000 in
theorem c_Mo_px {l : Launch} {D : va_G} {kA : Nat → ClassId} : ct_ok l D kA GG y_Mo_px z_Mo_px e_Mo_px := chk_all_ok (FT := [(123, 13, 62), (1020, 13, 139)]) (PT := []) (CT := t_Mo_px_ct) (KT := []) (AN := n_Mo_px_an) 0 200 (by decide +kernel) ⟨List.forall_mem_cons.mpr ⟨gf_Mo_123, List.forall_mem_cons.mpr ⟨gf_Mo_1020, List.forall_mem_nil _⟩⟩, List.forall_mem_nil _, List.forall_mem_nil _, List.forall_mem_nil _⟩ (by decide +kernel)
abbrev b_Mo_py : ByteArray := prog_15_method_182_code
def y_Mo_py : MethodName := ⟨"DrawingHouseModel", "py", "(I)I"⟩
abbrev z_Mo_py : List Cond := Cond.code y_Mo_py b_Mo_py 2 (some .int) :: lw_g
def e_Mo_py : en_T := ([(2, 0, 0, [139]), (0, 0, 23, [])], some (0, -2147483648, 2147483647, []), true, 1, 0, 0, [([(2, 0, 0, [139]), (0, 0, 23, []), (0, -2147483648, 2147483647, [])], [], [2], [], [], [])], [], [])
def n_Mo_py_an : List an_T := []
def t_Mo_py_ct : ct_L := []
set_option maxRecDepth 100000 in
theorem c_Mo_py {l : Launch} {D : va_G} {kA : Nat → ClassId} : ct_ok l D kA GG y_Mo_py z_Mo_py e_Mo_py := chk_all_ok (FT := [(126, 13, 63), (1020, 13, 139)]) (PT := []) (CT := t_Mo_py_ct) (KT := []) (AN := n_Mo_py_an) 0 200 (by decide +kernel) ⟨List.forall_mem_cons.mpr ⟨gf_Mo_126, List.forall_mem_cons.mpr ⟨gf_Mo_1020, List.forall_mem_nil _⟩⟩, List.forall_mem_nil _, List.forall_mem_nil _, List.forall_mem_nil _⟩ (by decide +kernel)
abbrev b_Mo_rowOf : ByteArray := prog_15_method_7_code
def y_Mo_rowOf : MethodName := ⟨"DrawingHouseModel", "rowOf", "(II)I"⟩
abbrev z_Mo_rowOf : List Cond := Cond.code y_Mo_rowOf b_Mo_rowOf 2 (some .int) :: lw_g
def e_Mo_rowOf : en_T := ([(0, 0, 3, []), (0, 0, 30, [])], some (5, 0, 66297, [539]), true, 1, 0, 0, [([(0, 0, 3, []), (0, 0, 30, []), (0, 0, 66297, [])], [], [2], [], [], [(2, 539)])], [], [])
def n_Mo_rowOf_an : List an_T := []
def t_Mo_rowOf_ct : ct_L := []
set_option maxRecDepth 100000 in
theorem c_Mo_rowOf {l : Launch} {D : va_G} {kA : Nat → ClassId} : ct_ok l D kA GG y_Mo_rowOf z_Mo_rowOf e_Mo_rowOf := chk_all_ok (FT := []) (PT := []) (CT := t_Mo_rowOf_ct) (KT := []) (AN := n_Mo_rowOf_an) 0 200 (by decide +kernel) ⟨List.forall_mem_nil _, List.forall_mem_nil _, List.forall_mem_nil _, List.forall_mem_nil _⟩ (by decide +kernel)
abbrev b_Mo_shareNew : ByteArray := prog_15_method_76_code
def y_Mo_shareNew : MethodName := ⟨"DrawingHouseModel", "shareNew", "(II)Z"⟩
abbrev z_Mo_shareNew : List Cond := Cond.code y_Mo_shareNew b_Mo_shareNew 5 (some .boolean) :: lw_g
def e_Mo_shareNew : en_T := ([(2, 0, 0, [139]), (0, 0, 79, []), (0, 0, 79, [])], some (0, 0, 1, []), true, 1, 0, 0, [], [], [])
def n_Mo_shareNew_an : List an_T := []
def t_Mo_shareNew_ct : ct_L := []
set_option maxRecDepth 100000 in
theorem c_Mo_shareNew {l : Launch} {D : va_G} {kA : Nat → ClassId} : ct_ok l D kA GG y_Mo_shareNew z_Mo_shareNew e_Mo_shareNew := chk_all_ok (FT := [(57, 13, 33), (60, 13, 34), (81, 13, 42)]) (PT := []) (CT := t_Mo_shareNew_ct) (KT := []) (AN := n_Mo_shareNew_an) 0 1088 (by decide +kernel) ⟨List.forall_mem_cons.mpr ⟨gf_Mo_57, List.forall_mem_cons.mpr ⟨gf_Mo_60, List.forall_mem_cons.mpr ⟨gf_Mo_81, List.forall_mem_nil _⟩⟩⟩, List.forall_mem_nil _, List.forall_mem_nil _, List.forall_mem_nil _⟩ (by decide +kernel)
abbrev b_Mo_sign : ByteArray := prog_15_method_31_code
def y_Mo_sign : MethodName := ⟨"DrawingHouseModel", "sign", "(I)Z"⟩
abbrev z_Mo_sign : List Cond := Cond.code y_Mo_sign b_Mo_sign 2 (some .boolean) :: lw_g
def e_Mo_sign : en_T := ([(2, 0, 0, [139]), (0, 45, 125, [])], some (0, 0, 1, []), true, 1, 0, 0, [([(2, 0, 0, [139]), (0, 45, 125, []), (0, 0, 0, [])], [], [2], [], [], []), ([(2, 0, 0, [139]), (0, 45, 125, []), (0, 1, 1, [])], [], [2], [], [], [])], [], [])
def n_Mo_sign_an : List an_T := []
def t_Mo_sign_ct : ct_L := []
set_option maxRecDepth 100000 in
theorem c_Mo_sign {l : Launch} {D : va_G} {kA : Nat → ClassId} : ct_ok l D kA GG y_Mo_sign z_Mo_sign e_Mo_sign := chk_all_ok (FT := [(413, 13, 8), (434, 13, 12), (437, 13, 14)]) (PT := []) (CT := t_Mo_sign_ct) (KT := []) (AN := n_Mo_sign_an) 0 200 (by decide +kernel) ⟨List.forall_mem_cons.mpr ⟨gf_Mo_413, List.forall_mem_cons.mpr ⟨gf_Mo_434, List.forall_mem_cons.mpr ⟨gf_Mo_437, List.forall_mem_nil _⟩⟩⟩, List.forall_mem_nil _, List.forall_mem_nil _, List.forall_mem_nil _⟩ (by decide +kernel)
abbrev b_Mo_signOf : ByteArray := prog_15_method_199_code
def y_Mo_signOf : MethodName := ⟨"DrawingHouseModel", "signOf", "(J)I"⟩
abbrev z_Mo_signOf : List Cond := Cond.code y_Mo_signOf b_Mo_signOf 2 (some .int) :: lw_g
def e_Mo_signOf : en_T := ([(1, -9223372036854775808, 9223372036854775807, [])], some (0, -1, 1, []), true, 1, 0, 0, [([(1, -9223372036854775808, 9223372036854775807, []), (0, 0, 0, [])], [], [1], [], [], []), ([(1, -9223372036854775808, 9223372036854775807, []), (0, -1, -1, [])], [], [1], [], [], []), ([(1, -9223372036854775808, 9223372036854775807, []), (0, 1, 1, [])], [], [1], [], [], [])], [], [])
def n_Mo_signOf_an : List an_T := []
def t_Mo_signOf_ct : ct_L := []
set_option maxRecDepth 100000 in
theorem c_Mo_signOf {l : Launch} {D : va_G} {kA : Nat → ClassId} : ct_ok l D kA GG y_Mo_signOf z_Mo_signOf e_Mo_signOf := chk_all_ok (FT := []) (PT := []) (CT := t_Mo_signOf_ct) (KT := []) (AN := n_Mo_signOf_an) 0 200 (by decide +kernel) ⟨List.forall_mem_nil _, List.forall_mem_nil _, List.forall_mem_nil _, List.forall_mem_nil _⟩ (by decide +kernel)
abbrev b_Mo_size : ByteArray := prog_15_method_18_code
def y_Mo_size : MethodName := ⟨"DrawingHouseModel", "size", "(I)I"⟩
abbrev z_Mo_size : List Cond := Cond.code y_Mo_size b_Mo_size 2 (some .int) :: lw_g
def e_Mo_size : en_T := ([(2, 0, 0, [139]), (0, 0, 23, [])], some (0, 0, 99, []), true, 1, 0, 0, [([(2, 0, 0, [139]), (0, 0, 23, []), (0, 0, 99, [])], [], [2], [], [], [])], [], [])
def n_Mo_size_an : List an_T := []
def t_Mo_size_ct : ct_L := []
set_option maxRecDepth 100000 in
theorem c_Mo_size {l : Launch} {D : va_G} {kA : Nat → ClassId} : ct_ok l D kA GG y_Mo_size z_Mo_size e_Mo_size := chk_all_ok (FT := [(16, 13, 2), (391, 13, 5)]) (PT := []) (CT := t_Mo_size_ct) (KT := []) (AN := n_Mo_size_an) 0 200 (by decide +kernel) ⟨List.forall_mem_cons.mpr ⟨gf_Mo_16, List.forall_mem_cons.mpr ⟨gf_Mo_391, List.forall_mem_nil _⟩⟩, List.forall_mem_nil _, List.forall_mem_nil _, List.forall_mem_nil _⟩ (by decide +kernel)
abbrev b_Mo_styleSign : ByteArray := prog_15_method_214_code
def y_Mo_styleSign : MethodName := ⟨"DrawingHouseModel", "styleSign", "(I)Z"⟩
abbrev z_Mo_styleSign : List Cond := Cond.code y_Mo_styleSign b_Mo_styleSign 2 (some .boolean) :: lw_g
def e_Mo_styleSign : en_T := ([(2, 0, 0, [139]), (0, 40, 125, [])], some (0, 0, 1, []), true, 1, 0, 0, [([(2, 0, 0, [139]), (0, 40, 125, []), (0, 0, 0, [])], [], [2], [], [], []), ([(2, 0, 0, [139]), (0, 40, 125, []), (0, 1, 1, [])], [], [2], [], [], [])], [], [])
def n_Mo_styleSign_an : List an_T := []
def t_Mo_styleSign_ct : ct_L := []
set_option maxRecDepth 100000 in
theorem c_Mo_styleSign {l : Launch} {D : va_G} {kA : Nat → ClassId} : ct_ok l D kA GG y_Mo_styleSign z_Mo_styleSign e_Mo_styleSign := chk_all_ok (FT := [(342, 13, 160), (345, 13, 161), (413, 13, 8), (1169, 13, 158)]) (PT := []) (CT := t_Mo_styleSign_ct) (KT := []) (AN := n_Mo_styleSign_an) 0 200 (by decide +kernel) ⟨List.forall_mem_cons.mpr ⟨gf_Mo_342, List.forall_mem_cons.mpr ⟨gf_Mo_345, List.forall_mem_cons.mpr ⟨gf_Mo_413, List.forall_mem_cons.mpr ⟨gf_Mo_1169, List.forall_mem_nil _⟩⟩⟩⟩, List.forall_mem_nil _, List.forall_mem_nil _, List.forall_mem_nil _⟩ (by decide +kernel)
abbrev b_Mo_tail : ByteArray := prog_15_method_14_code
def y_Mo_tail : MethodName := ⟨"DrawingHouseModel", "tail", "(I)I"⟩
abbrev z_Mo_tail : List Cond := Cond.code y_Mo_tail b_Mo_tail 2 (some .int) :: lw_g
def e_Mo_tail : en_T := ([(2, 0, 0, [139]), (0, 0, 47, [])], some (0, 0, 23, []), true, 1, 0, 0, [([(2, 0, 0, [139]), (0, 0, 47, []), (0, 0, 23, [])], [], [2], [], [], [])], [], [])
def n_Mo_tail_an : List an_T := []
def t_Mo_tail_ct : ct_L := []
set_option maxRecDepth 100000 in
theorem c_Mo_tail {l : Launch} {D : va_G} {kA : Nat → ClassId} : ct_ok l D kA GG y_Mo_tail z_Mo_tail e_Mo_tail := chk_all_ok (FT := [(16, 13, 2), (391, 13, 5)]) (PT := []) (CT := t_Mo_tail_ct) (KT := []) (AN := n_Mo_tail_an) 0 200 (by decide +kernel) ⟨List.forall_mem_cons.mpr ⟨gf_Mo_16, List.forall_mem_cons.mpr ⟨gf_Mo_391, List.forall_mem_nil _⟩⟩, List.forall_mem_nil _, List.forall_mem_nil _, List.forall_mem_nil _⟩ (by decide +kernel)
abbrev b_Mo_toOf : ByteArray := prog_15_method_88_code
def y_Mo_toOf : MethodName := ⟨"DrawingHouseModel", "toOf", "(I)I"⟩
abbrev z_Mo_toOf : List Cond := Cond.code y_Mo_toOf b_Mo_toOf 2 (some .int) :: lw_g
def e_Mo_toOf : en_T := ([(2, 0, 0, [139]), (0, 0, 159, [])], some (0, 0, 24, []), true, 1, 0, 0, [([(2, 0, 0, [139]), (0, 0, 159, []), (0, 0, 24, [])], [], [2], [], [], [])], [], [])
def n_Mo_toOf_an : List an_T := []
def t_Mo_toOf_ct : ct_L := []
set_option maxRecDepth 100000 in
theorem c_Mo_toOf {l : Launch} {D : va_G} {kA : Nat → ClassId} : ct_ok l D kA GG y_Mo_toOf z_Mo_toOf e_Mo_toOf := chk_all_ok (FT := [(57, 13, 33), (60, 13, 34)]) (PT := []) (CT := t_Mo_toOf_ct) (KT := []) (AN := n_Mo_toOf_an) 0 200 (by decide +kernel) ⟨List.forall_mem_cons.mpr ⟨gf_Mo_57, List.forall_mem_cons.mpr ⟨gf_Mo_60, List.forall_mem_nil _⟩⟩, List.forall_mem_nil _, List.forall_mem_nil _, List.forall_mem_nil _⟩ (by decide +kernel)
abbrev b_Mo_turnOf : ByteArray := prog_15_method_198_code
def y_Mo_turnOf : MethodName := ⟨"DrawingHouseModel", "turnOf", "(JJJJJJ)J"⟩
abbrev z_Mo_turnOf : List Cond := Cond.code y_Mo_turnOf b_Mo_turnOf 12 (some .long) :: lw_g
def e_Mo_turnOf : en_T := ([(1, -2147483648, 2147483647, []), (1, -2147483648, 2147483647, []), (1, -2147483648, 2147483647, []), (1, -2147483648, 2147483647, []), (1, -2147483648, 2147483647, []), (1, -2147483648, 2147483647, [])], some (1, -9223372036854775808, 9223372036854775807, []), true, 1, 0, 0, [([(1, -2147483648, 2147483647, []), (1, -2147483648, 2147483647, []), (1, -2147483648, 2147483647, []), (1, -2147483648, 2147483647, []), (1, -2147483648, 2147483647, []), (1, -2147483648, 2147483647, []), (1, -9223372036854775808, 9223372036854775807, [])], [], [6], [], [], [])], [], [])
def n_Mo_turnOf_an : List an_T := []
def t_Mo_turnOf_ct : ct_L := []
set_option maxRecDepth 100000 in
theorem c_Mo_turnOf {l : Launch} {D : va_G} {kA : Nat → ClassId} : ct_ok l D kA GG y_Mo_turnOf z_Mo_turnOf e_Mo_turnOf := chk_all_ok (FT := []) (PT := []) (CT := t_Mo_turnOf_ct) (KT := []) (AN := n_Mo_turnOf_an) 0 200 (by decide +kernel) ⟨List.forall_mem_nil _, List.forall_mem_nil _, List.forall_mem_nil _, List.forall_mem_nil _⟩ (by decide +kernel)
abbrev b_Mo_weight : ByteArray := prog_15_method_16_code
def y_Mo_weight : MethodName := ⟨"DrawingHouseModel", "weight", "(I)I"⟩
abbrev z_Mo_weight : List Cond := Cond.code y_Mo_weight b_Mo_weight 2 (some .int) :: lw_g
def e_Mo_weight : en_T := ([(2, 0, 0, [139]), (0, 0, 47, [])], some (0, 0, 9, []), true, 1, 0, 0, [([(2, 0, 0, [139]), (0, 0, 47, []), (0, 0, 9, [])], [], [2], [], [], [])], [], [])
def n_Mo_weight_an : List an_T := []
def t_Mo_weight_ct : ct_L := []
set_option maxRecDepth 100000 in
theorem c_Mo_weight {l : Launch} {D : va_G} {kA : Nat → ClassId} : ct_ok l D kA GG y_Mo_weight z_Mo_weight e_Mo_weight := chk_all_ok (FT := [(16, 13, 2), (391, 13, 5)]) (PT := []) (CT := t_Mo_weight_ct) (KT := []) (AN := n_Mo_weight_an) 0 200 (by decide +kernel) ⟨List.forall_mem_cons.mpr ⟨gf_Mo_16, List.forall_mem_cons.mpr ⟨gf_Mo_391, List.forall_mem_nil _⟩⟩, List.forall_mem_nil _, List.forall_mem_nil _, List.forall_mem_nil _⟩ (by decide +kernel)
abbrev b_Mo_wrong : ByteArray := prog_15_method_30_code
def y_Mo_wrong : MethodName := ⟨"DrawingHouseModel", "wrong", "(II)V"⟩
abbrev z_Mo_wrong : List Cond := Cond.code y_Mo_wrong b_Mo_wrong 3 none :: lw_g
def e_Mo_wrong : en_T := ([(2, 0, 0, [139]), (0, 1, 5, []), (0, 0, 2000, [])], none, false, 1, 0, 0, [], [], [(13, 8), (13, 9)])
def n_Mo_wrong_an : List an_T := []
def t_Mo_wrong_ct : ct_L := []
set_option maxRecDepth 100000 in
theorem c_Mo_wrong {l : Launch} {D : va_G} {kA : Nat → ClassId} : ct_ok l D kA GG y_Mo_wrong z_Mo_wrong e_Mo_wrong := chk_all_ok (FT := [(413, 13, 8)]) (PT := [(413, 13, 8, .int), (416, 13, 9, .int)]) (CT := t_Mo_wrong_ct) (KT := []) (AN := n_Mo_wrong_an) 0 200 (by decide +kernel) ⟨List.forall_mem_cons.mpr ⟨gf_Mo_413, List.forall_mem_nil _⟩, List.forall_mem_cons.mpr ⟨pf_Mo_413, List.forall_mem_cons.mpr ⟨pf_Mo_416, List.forall_mem_nil _⟩⟩, List.forall_mem_nil _, List.forall_mem_nil _⟩ (by decide +kernel)
abbrev b_Ho_hasDrawing : ByteArray := prog_1_method_31_code
def y_Ho_hasDrawing : MethodName := ⟨"DrawingHouse", "hasDrawing", "(I)Z"⟩
abbrev z_Ho_hasDrawing : List Cond := Cond.code y_Ho_hasDrawing b_Ho_hasDrawing 2 (some .boolean) :: lw_g
def e_Ho_hasDrawing : en_T := ([(2, 0, 0, [12]), (0, -2147483648, 2147483647, [])], some (0, 0, 1, []), true, 2, 0, 0, [([(2, 0, 0, [12]), (0, -2147483648, -1, []), (0, 0, 0, [])], [], [2], [], [], []), ([(2, 0, 0, [12]), (0, 4, 2147483647, []), (0, 0, 0, [])], [], [2], [], [], []), ([(2, 0, 0, [12]), (0, 0, 3, []), (0, 0, 0, [])], [], [2], [], [], []), ([(2, 0, 0, [12]), (0, 0, 3, []), (0, 1, 1, [])], [], [2], [], [], [])], [], [])
def n_Ho_hasDrawing_an : List an_T := []
def t_Ho_hasDrawing_ct : ct_L := [(0, 115, e_Ho_isPlace)]
set_option maxRecDepth 100000 in
theorem c_Ho_hasDrawing {l : Launch} {D : va_G} {kA : Nat → ClassId} : ct_ok l D kA GG y_Ho_hasDrawing z_Ho_hasDrawing e_Ho_hasDrawing := chk_all_ok (FT := [(31, 12, 3), (309, 0, 1)]) (PT := []) (CT := t_Ho_hasDrawing_ct) (KT := []) (AN := n_Ho_hasDrawing_an) 0 200 (by decide +kernel) ⟨List.forall_mem_cons.mpr ⟨gf_Ho_31, List.forall_mem_cons.mpr ⟨gf_Ho_309, List.forall_mem_nil _⟩⟩, List.forall_mem_nil _, List.forall_mem_cons.mpr ⟨cl_static (y := y_Ho_isPlace) c_Ho_isPlace wm_633 wm_1 wm_631 wm_632 ⟨by decide, by decide, by decide +kernel⟩ (by decide), List.forall_mem_nil _⟩, List.forall_mem_nil _⟩ (by decide +kernel)
abbrev b_Dr_countUpward : ByteArray := prog_2_method_30_code
def y_Dr_countUpward : MethodName := ⟨"DrawingHouse$Drawing", "countUpward", "()J"⟩
abbrev z_Dr_countUpward : List Cond := Cond.code y_Dr_countUpward b_Dr_countUpward 6 (some .long) :: lw_g
def e_Dr_countUpward : en_T := ([(2, 0, 0, [0])], some (1, -9223372036854775808, 9223372036854775807, []), true, 2, 0, 0, [], [], [])
def n_Dr_countUpward_an : List an_T := [(4, [(0, (2, 0, 0, [0])), (1, (1, -9223372036854775808, 9223372036854775807, [])), (3, (0, 0, 48, []))], [], (0, 0), [(0, 0, 99996), (1, 2, 48), (0, 0, 100000), (0, 0, 0), (0, 0, 0)], [], []), (21, [(0, (2, 0, 0, [0])), (1, (1, -9223372036854775808, 9223372036854775807, [])), (3, (0, 0, 47, [])), (4, (0, 0, 1, [])), (5, (0, 0, 25, []))], [], (0, 0), [(0, 0, 99996), (1, 2, 48), (0, 0, 99979), (1, 4, 25), (0, 0, 100000)], [], [])]
def t_Dr_countUpward_ct : ct_L := [(1, 134, e_Dr_pointY)]
set_option maxRecDepth 100000 in
theorem c_Dr_countUpward {l : Launch} {D : va_G} {kA : Nat → ClassId} : ct_ok l D kA GG y_Dr_countUpward z_Dr_countUpward e_Dr_countUpward := chk_all_ok (FT := [(22, 0, 4), (74, 0, 0), (151, 3, 1)]) (PT := []) (CT := t_Dr_countUpward_ct) (KT := []) (AN := n_Dr_countUpward_an) 5 460 (by decide +kernel) ⟨List.forall_mem_cons.mpr ⟨gf_Dr_22, List.forall_mem_cons.mpr ⟨gf_Dr_74, List.forall_mem_cons.mpr ⟨gf_Dr_151, List.forall_mem_nil _⟩⟩⟩, List.forall_mem_nil _, List.forall_mem_cons.mpr ⟨cl_virtual (y := y_Dr_pointY) (ci := 0) rfl rfl ⟨_, _, rfl⟩ (by decide +kernel) c_Dr_pointY wm_1991 wm_8 wm_1988 wm_1989 wm_1990 ⟨by decide, by decide, by decide +kernel⟩ (by decide), List.forall_mem_nil _⟩, List.forall_mem_nil _⟩ (by decide +kernel)
abbrev b_Em_drawWay : ByteArray := prog_3_method_8_code
def y_Em_drawWay : MethodName := ⟨"DrawingHouse$Embedder", "drawWay", "()V"⟩
abbrev z_Em_drawWay : List Cond := Cond.code y_Em_drawWay b_Em_drawWay 3 none :: lw_g
def e_Em_drawWay : en_T := ([(2, 0, 0, [1])], none, false, 2, 0, 0, [], [((0, 0), (2, 0, 0, [5]))], [])
def n_Em_drawWay_an : List an_T := [(2, [(0, (2, 0, 0, [1])), (1, (0, 0, 26, []))], [], (0, 0), [(0, 0, 99998), (1, 1, 26), (0, 0, 100000)], [], [((0, 0), (2, 0, 0, [5]))])]
def t_Em_drawWay_ct : ct_L := [(1, 176, e_Ne_edgeBetween)]
set_option maxRecDepth 100000 in
theorem c_Em_drawWay {l : Launch} {D : va_G} {kA : Nat → ClassId} : ct_ok l D kA GG y_Em_drawWay z_Em_drawWay e_Em_drawWay := chk_all_ok (FT := [(9, 1, 0), (25, 1, 3), (60, 1, 14), (63, 1, 15)]) (PT := []) (CT := t_Em_drawWay_ct) (KT := []) (AN := n_Em_drawWay_an) 3 200 (by decide +kernel) ⟨List.forall_mem_cons.mpr ⟨gf_Em_9, List.forall_mem_cons.mpr ⟨gf_Em_25, List.forall_mem_cons.mpr ⟨gf_Em_60, List.forall_mem_cons.mpr ⟨gf_Em_63, List.forall_mem_nil _⟩⟩⟩⟩, List.forall_mem_nil _, List.forall_mem_cons.mpr ⟨cl_virtual (y := y_Ne_edgeBetween) (ci := 5) rfl rfl ⟨_, _, rfl⟩ (by decide +kernel) c_Ne_edgeBetween wm_1089 wm_6 wm_1086 wm_1087 wm_1088 ⟨by decide, by decide, by decide +kernel⟩ (by decide), List.forall_mem_nil _⟩, List.forall_mem_nil _⟩ (by decide +kernel)
abbrev b_Fa_pickLast : ByteArray := prog_4_method_25_code
def y_Fa_pickLast : MethodName := ⟨"DrawingHouse$Facts", "pickLast", "(LDrawingHouse$Graph;II)I"⟩
abbrev z_Fa_pickLast : List Cond := Cond.code y_Fa_pickLast b_Fa_pickLast 6 (some .int) :: lw_g
def e_Fa_pickLast : en_T := ([(2, 0, 0, [2]), (2, 0, 0, [3]), (0, 0, 16777215, []), (0, 8, 24, [])], some (0, -1, 23, []), true, 2, 0, 0, [], [], [])
def n_Fa_pickLast_an : List an_T := [(5, [(0, (2, 0, 0, [2])), (1, (2, 0, 0, [3])), (2, (0, 0, 16777215, [])), (3, (0, 8, 24, [])), (4, (0, -1, 23, []))], [], (0, 0), [(0, 0, 99995), (2, 4, -1), (0, 0, 100000)], [], [])]
def t_Fa_pickLast_ct : ct_L := [(0, 186, e_Fa_weights)]
set_option maxRecDepth 100000 in
theorem c_Fa_pickLast {l : Launch} {D : va_G} {kA : Nat → ClassId} : ct_ok l D kA GG y_Fa_pickLast z_Fa_pickLast e_Fa_pickLast := chk_all_ok (FT := [(54, 2, 13)]) (PT := []) (CT := t_Fa_pickLast_ct) (KT := []) (AN := n_Fa_pickLast_an) 3 200 (by decide +kernel) ⟨List.forall_mem_cons.mpr ⟨gf_Fa_54, List.forall_mem_nil _⟩, List.forall_mem_nil _, List.forall_mem_cons.mpr ⟨cl_static (y := y_Fa_weights) c_Fa_weights wm_892 wm_7 wm_890 wm_891 ⟨by decide, by decide, by decide +kernel⟩ (by decide), List.forall_mem_nil _⟩, List.forall_mem_nil _⟩ (by decide +kernel)
abbrev b_Fa_weightOf : ByteArray := prog_4_method_20_code
def y_Fa_weightOf : MethodName := ⟨"DrawingHouse$Facts", "weightOf", "(LDrawingHouse$Graph;II)I"⟩
abbrev z_Fa_weightOf : List Cond := Cond.code y_Fa_weightOf b_Fa_weightOf 4 (some .int) :: lw_g
def e_Fa_weightOf : en_T := ([(2, 0, 0, [3]), (0, 0, 23, []), (0, 0, 23, [])], some (0, 0, 9, []), true, 2, 0, 0, [([(2, 0, 0, [3]), (0, 0, 23, []), (0, 0, 23, []), (0, 0, 0, [])], [], [3], [], [], []), ([(2, 0, 0, [3]), (0, 0, 23, []), (0, 0, 23, []), (0, 0, 9, [])], [], [3], [], [], [])], [], [])
def n_Fa_weightOf_an : List an_T := []
def t_Fa_weightOf_ct : ct_L := [(1, 166, e_Gr_edgeBetween)]
set_option maxRecDepth 100000 in
theorem c_Fa_weightOf {l : Launch} {D : va_G} {kA : Nat → ClassId} : ct_ok l D kA GG y_Fa_weightOf z_Fa_weightOf e_Fa_weightOf := chk_all_ok (FT := [(72, 3, 7), (169, 3, 9)]) (PT := []) (CT := t_Fa_weightOf_ct) (KT := []) (AN := n_Fa_weightOf_an) 0 200 (by decide +kernel) ⟨List.forall_mem_cons.mpr ⟨gf_Fa_72, List.forall_mem_cons.mpr ⟨gf_Fa_169, List.forall_mem_nil _⟩⟩, List.forall_mem_nil _, List.forall_mem_cons.mpr ⟨cl_virtual (y := y_Gr_edgeBetween) (ci := 3) rfl rfl ⟨_, _, rfl⟩ (by decide +kernel) c_Gr_edgeBetween wm_768 wm_3 wm_913 wm_766 wm_767 ⟨by decide, by decide, by decide +kernel⟩ (by decide), List.forall_mem_nil _⟩, List.forall_mem_nil _⟩ (by decide +kernel)
abbrev b_La_halfOf : ByteArray := prog_6_method_28_code
def y_La_halfOf : MethodName := ⟨"DrawingHouse$Layers", "halfOf", "(I)I"⟩
abbrev z_La_halfOf : List Cond := Cond.code y_La_halfOf b_La_halfOf 2 (some .int) :: lw_g
def e_La_halfOf : en_T := ([(2, 0, 0, [4]), (0, 0, 71, [])], some (0, 0, 9, []), true, 2, 0, 0, [([(2, 0, 0, [4]), (0, 0, 71, []), (2, 0, 0, [3]), (0, 0, 0, [])], [], [3], [((0, 1), 2)], [], []), ([(2, 0, 0, [4]), (0, 0, 23, []), (2, 0, 0, [3]), (0, 1, 9, [])], [], [3], [((0, 1), 2)], [], [])], [((0, 1), (2, 0, 0, [3]))], [])
def n_La_halfOf_an : List an_T := []
def t_La_halfOf_ct : ct_L := [(1, 242, e_Gr_half)]
set_option maxRecDepth 100000 in
theorem c_La_halfOf {l : Launch} {D : va_G} {kA : Nat → ClassId} : ct_ok l D kA GG y_La_halfOf z_La_halfOf e_La_halfOf := chk_all_ok (FT := [(18, 4, 1), (139, 3, 0)]) (PT := []) (CT := t_La_halfOf_ct) (KT := []) (AN := n_La_halfOf_an) 0 200 (by decide +kernel) ⟨List.forall_mem_cons.mpr ⟨gf_La_18, List.forall_mem_cons.mpr ⟨gf_La_139, List.forall_mem_nil _⟩⟩, List.forall_mem_nil _, List.forall_mem_cons.mpr ⟨cl_virtual (y := y_Gr_half) (ci := 3) rfl rfl ⟨_, _, rfl⟩ (by decide +kernel) c_Gr_half wm_1452 wm_3 wm_1449 wm_1450 wm_1451 ⟨by decide, by decide, by decide +kernel⟩ (by decide), List.forall_mem_nil _⟩, List.forall_mem_nil _⟩ (by decide +kernel)
abbrev b_Pl_layRow : ByteArray := prog_8_method_16_code
def y_Pl_layRow : MethodName := ⟨"DrawingHouse$PlainWays", "layRow", "(IIII)V"⟩
abbrev z_Pl_layRow : List Cond := Cond.code y_Pl_layRow b_Pl_layRow 12 none :: lw_g
def e_Pl_layRow : en_T := ([(2, 0, 0, [6]), (0, 0, 31, []), (0, 1, 32, []), (0, -2147483648, 2147483647, []), (0, -2147483648, 2147483647, [])], none, false, 2, 0, 0, [], [((0, 1), (2, 0, 0, [0]))], [])
def n_Pl_layRow_an : List an_T := [(86, [(0, (2, 0, 0, [6])), (1, (0, 0, 31, [])), (2, (0, 1, 32, [])), (3, (0, -2147483648, 2147483647, [])), (4, (0, -2147483648, 2147483647, [])), (5, (0, 0, 1, [])), (6, (0, -2147483648, 2147483647, [])), (7, (0, -2147483648, 2147483647, [])), (8, (0, -2147483648, 2147483647, [])), (9, (0, 0, 32, []))], [], (0, 0), [(0, 0, 99914), (1, 9, 32), (0, 0, 100000)], [], [((0, 1), (2, 0, 0, [0]))])]
def t_Pl_layRow_ct : ct_L := [(1, 162, e_Pl_setArea)]
set_option maxRecDepth 100000 in
theorem c_Pl_layRow {l : Launch} {D : va_G} {kA : Nat → ClassId} : ct_ok l D kA GG y_Pl_layRow z_Pl_layRow e_Pl_layRow := chk_all_ok (FT := [(42, 6, 9), (45, 6, 10), (51, 6, 12)]) (PT := []) (CT := t_Pl_layRow_ct) (KT := []) (AN := n_Pl_layRow_an) 3 916 (by decide +kernel) ⟨List.forall_mem_cons.mpr ⟨gf_Pl_42, List.forall_mem_cons.mpr ⟨gf_Pl_45, List.forall_mem_cons.mpr ⟨gf_Pl_51, List.forall_mem_nil _⟩⟩⟩, List.forall_mem_nil _, List.forall_mem_cons.mpr ⟨cl_virtual (y := y_Pl_setArea) (ci := 6) rfl rfl ⟨_, _, rfl⟩ (by decide +kernel) c_Pl_setArea wm_1725 wm_21 wm_1722 wm_1724 wv_7_13 ⟨by decide, by decide, by decide +kernel⟩ (by decide), List.forall_mem_nil _⟩, List.forall_mem_nil _⟩ (by decide +kernel)
abbrev b_St_addGap : ByteArray := prog_12_method_4_code
def y_St_addGap : MethodName := ⟨"DrawingHouse$Stretch", "addGap", "(III)V"⟩
abbrev z_St_addGap : List Cond := Cond.code y_St_addGap b_St_addGap 4 none :: lw_g
def e_St_addGap : en_T := ([(2, 0, 0, [10]), (0, 0, 71, []), (0, 0, 71, []), (0, 1, 20, [])], none, false, 2, 0, 0, [], [], [(10, 1)])
def n_St_addGap_an : List an_T := []
def t_St_addGap_ct : ct_L := [(1, 40, e_St_addArc)]
set_option maxRecDepth 100000 in
theorem c_St_addGap {l : Launch} {D : va_G} {kA : Nat → ClassId} : ct_ok l D kA GG y_St_addGap z_St_addGap e_St_addGap := chk_all_ok (FT := []) (PT := []) (CT := t_St_addGap_ct) (KT := [(0, 44, .int (1000000000), (0, 1000000000, 1000000000, []))]) (AN := n_St_addGap_an) 0 200 (by decide +kernel) ⟨List.forall_mem_nil _, List.forall_mem_nil _, List.forall_mem_cons.mpr ⟨cl_virtual (y := y_St_addArc) (ci := 10) rfl rfl ⟨_, _, rfl⟩ (by decide +kernel) c_St_addArc wm_1333 wm_19 wm_1330 wm_1332 wv_4_11 ⟨by decide, by decide, by decide +kernel⟩ (by decide), List.forall_mem_nil _⟩, List.forall_mem_cons.mpr ⟨kx_St_0_44, List.forall_mem_nil _⟩⟩ (by decide +kernel)
abbrev b_St_addPiece : ByteArray := prog_12_method_3_code
def y_St_addPiece : MethodName := ⟨"DrawingHouse$Stretch", "addPiece", "(III)V"⟩
abbrev z_St_addPiece : List Cond := Cond.code y_St_addPiece b_St_addPiece 4 none :: lw_g
def e_St_addPiece : en_T := ([(2, 0, 0, [10]), (0, 0, 71, []), (0, 0, 71, []), (0, 0, 576, [])], none, false, 2, 0, 0, [], [], [(10, 1)])
def n_St_addPiece_an : List an_T := []
def t_St_addPiece_ct : ct_L := [(1, 40, e_St_addArc)]
set_option maxRecDepth 100000 in
theorem c_St_addPiece {l : Launch} {D : va_G} {kA : Nat → ClassId} : ct_ok l D kA GG y_St_addPiece z_St_addPiece e_St_addPiece := chk_all_ok (FT := []) (PT := []) (CT := t_St_addPiece_ct) (KT := []) (AN := n_St_addPiece_an) 0 200 (by decide +kernel) ⟨List.forall_mem_nil _, List.forall_mem_nil _, List.forall_mem_cons.mpr ⟨cl_virtual (y := y_St_addArc) (ci := 10) rfl rfl ⟨_, _, rfl⟩ (by decide +kernel) c_St_addArc wm_1333 wm_19 wm_1330 wm_1332 wv_4_11 ⟨by decide, by decide, by decide +kernel⟩ (by decide), List.forall_mem_nil _⟩, List.forall_mem_nil _⟩ (by decide +kernel)
abbrev b_Mo_blocksOf : ByteArray := prog_15_method_96_code
def y_Mo_blocksOf : MethodName := ⟨"DrawingHouseModel", "blocksOf", "(I)I"⟩
abbrev z_Mo_blocksOf : List Cond := Cond.code y_Mo_blocksOf b_Mo_blocksOf 6 (some .int) :: lw_g
def e_Mo_blocksOf : en_T := ([(2, 0, 0, [139]), (0, 0, 23, [])], some (0, -2147483648, 2147483647, []), true, 2, 0, 0, [], [], [])
def n_Mo_blocksOf_an : List an_T := [(4, [(0, (2, 0, 0, [139])), (1, (0, 0, 23, [])), (2, (0, -2147483648, 2147483647, [])), (3, (0, 0, 48, []))], [], (0, 0), [(0, 0, 99996), (1, 3, 48), (0, 0, 100000), (0, 0, 0), (0, 0, 0)], [], []), (16, [(0, (2, 0, 0, [139])), (1, (0, 0, 23, [])), (2, (0, -2147483648, 2147483647, [])), (3, (0, 0, 47, [])), (4, (0, 0, 1, [])), (5, (0, 0, 80, []))], [], (0, 0), [(0, 0, 99996), (1, 3, 48), (0, 0, 99984), (1, 5, 80), (0, 0, 100000)], [], [])]
def t_Mo_blocksOf_ct : ct_L := [(1, 600, e_Mo_at1)]
set_option maxRecDepth 100000 in
theorem c_Mo_blocksOf {l : Launch} {D : va_G} {kA : Nat → ClassId} : ct_ok l D kA GG y_Mo_blocksOf z_Mo_blocksOf e_Mo_blocksOf := chk_all_ok (FT := [(32, 13, 17), (597, 13, 32)]) (PT := []) (CT := t_Mo_blocksOf_ct) (KT := []) (AN := n_Mo_blocksOf_an) 5 252 (by decide +kernel) ⟨List.forall_mem_cons.mpr ⟨gf_Mo_32, List.forall_mem_cons.mpr ⟨gf_Mo_597, List.forall_mem_nil _⟩⟩, List.forall_mem_nil _, List.forall_mem_cons.mpr ⟨cl_virtual (y := y_Mo_at1) (ci := 13) rfl rfl ⟨_, _, rfl⟩ (by decide +kernel) c_Mo_at1 wm_3159 wm_9 wm_3156 wm_3158 wv_14_15 ⟨by decide, by decide, by decide +kernel⟩ (by decide), List.forall_mem_nil _⟩, List.forall_mem_nil _⟩ (by decide +kernel)
abbrev b_Mo_choose : ByteArray := prog_15_method_81_code
def y_Mo_choose : MethodName := ⟨"DrawingHouseModel", "choose", "()I"⟩
abbrev z_Mo_choose : List Cond := Cond.code y_Mo_choose b_Mo_choose 6 (some .int) :: lw_g
def e_Mo_choose : en_T := ([(2, 0, 0, [139])], some (0, -1, 79, []), true, 2, 0, 0, [], [], [])
def n_Mo_choose_an : List an_T := [(8, [(0, (2, 0, 0, [139])), (1, (0, -1, 79, [])), (2, (0, -2147483648, 1000000, [])), (3, (0, 0, 80, []))], [], (0, 0), [(0, 0, 99992), (1, 3, 80), (0, 0, 100000), (0, 0, 0), (0, 0, 0)], [], []), (35, [(0, (2, 0, 0, [139])), (1, (0, -1, 79, [])), (2, (0, -2147483648, 1000000, [])), (3, (0, 0, 79, [])), (4, (0, -2147483648, 2147483647, [])), (5, (0, 0, 120, []))], [], (0, 0), [(0, 0, 99992), (1, 3, 80), (0, 0, 99965), (1, 5, 120), (0, 0, 100000)], [], [])]
def t_Mo_choose_ct : ct_L := [(1, 662, e_Mo_fitsFace)]
set_option maxRecDepth 100000 in
theorem c_Mo_choose {l : Launch} {D : va_G} {kA : Nat → ClassId} : ct_ok l D kA GG y_Mo_choose z_Mo_choose e_Mo_choose := chk_all_ok (FT := [(87, 13, 44), (597, 13, 32), (612, 13, 39)]) (PT := []) (CT := t_Mo_choose_ct) (KT := [(1, 546, .int (1000000), (0, 1000000, 1000000, []))]) (AN := n_Mo_choose_an) 5 248 (by decide +kernel) ⟨List.forall_mem_cons.mpr ⟨gf_Mo_87, List.forall_mem_cons.mpr ⟨gf_Mo_597, List.forall_mem_cons.mpr ⟨gf_Mo_612, List.forall_mem_nil _⟩⟩⟩, List.forall_mem_nil _, List.forall_mem_cons.mpr ⟨cl_virtual (y := y_Mo_fitsFace) (ci := 13) rfl rfl ⟨_, _, rfl⟩ (by decide +kernel) c_Mo_fitsFace wm_3223 wm_9 wm_3220 wm_3222 wv_15_14 ⟨by decide, by decide, by decide +kernel⟩ (by decide), List.forall_mem_nil _⟩, List.forall_mem_cons.mpr ⟨kx_Mo_1_546, List.forall_mem_nil _⟩⟩ (by decide +kernel)
abbrev b_Mo_dart : ByteArray := prog_15_method_153_code
def y_Mo_dart : MethodName := ⟨"DrawingHouseModel", "dart", "(I)I"⟩
abbrev z_Mo_dart : List Cond := Cond.code y_Mo_dart b_Mo_dart 2 (some .int) :: lw_g
def e_Mo_dart : en_T := ([(2, 0, 0, [139]), (0, 0, 79, [])], some (0, 0, 159, []), true, 2, 0, 0, [([(2, 0, 0, [139]), (0, 0, 79, []), (0, 1, 159, [])], [], [2], [], [], []), ([(2, 0, 0, [139]), (0, 0, 79, []), (0, 0, 158, [])], [], [2], [], [], [(2, 2)])], [], [])
def n_Mo_dart_an : List an_T := []
def t_Mo_dart_ct : ct_L := [(1, 919, e_Mo_low)]
set_option maxRecDepth 100000 in
theorem c_Mo_dart {l : Launch} {D : va_G} {kA : Nat → ClassId} : ct_ok l D kA GG y_Mo_dart z_Mo_dart e_Mo_dart := chk_all_ok (FT := [(57, 13, 33)]) (PT := []) (CT := t_Mo_dart_ct) (KT := []) (AN := n_Mo_dart_an) 0 200 (by decide +kernel) ⟨List.forall_mem_cons.mpr ⟨gf_Mo_57, List.forall_mem_nil _⟩, List.forall_mem_nil _, List.forall_mem_cons.mpr ⟨cl_virtual (y := y_Mo_low) (ci := 13) rfl rfl ⟨_, _, rfl⟩ (by decide +kernel) c_Mo_low wm_3542 wm_9 wm_3539 wm_3541 wv_20_5 ⟨by decide, by decide, by decide +kernel⟩ (by decide), List.forall_mem_nil _⟩, List.forall_mem_nil _⟩ (by decide +kernel)
abbrev b_Mo_dot : ByteArray := prog_15_method_246_code
def y_Mo_dot : MethodName := ⟨"DrawingHouseModel", "dot", "(II)I"⟩
abbrev z_Mo_dot : List Cond := Cond.code y_Mo_dot b_Mo_dot 3 (some .int) :: lw_g
def e_Mo_dot : en_T := ([(2, 0, 0, [139]), (0, -2147483648, 2147483647, []), (0, -2147483648, 2147483647, [])], some (0, -2147483648, 2147483647, []), true, 2, 0, 0, [([(2, 0, 0, [139]), (0, -2147483648, -1, []), (0, -2147483648, 2147483647, []), (0, -1, -1, [])], [], [3], [], [], []), ([(2, 0, 0, [139]), (0, 0, 2147483647, []), (0, -2147483648, 2147483647, []), (0, -1, -1, [])], [], [3], [], [], []), ([(2, 0, 0, [139]), (0, 0, 63, []), (0, -2147483648, -1, []), (0, -1, -1, [])], [], [3], [], [], []), ([(2, 0, 0, [139]), (0, 0, 63, []), (0, 0, 2147483647, []), (0, -1, -1, [])], [], [3], [], [], []), ([(2, 0, 0, [139]), (0, 0, 63, []), (0, 0, 63, []), (0, -2147483648, 2147483647, [])], [], [3], [], [], [])], [], [])
def n_Mo_dot_an : List an_T := []
def t_Mo_dot_ct : ct_L := [(0, 387, e_Mo_in)]
set_option maxRecDepth 100000 in
theorem c_Mo_dot {l : Launch} {D : va_G} {kA : Nat → ClassId} : ct_ok l D kA GG y_Mo_dot z_Mo_dot e_Mo_dot := chk_all_ok (FT := [(369, 13, 175), (1329, 13, 173), (1332, 13, 174)]) (PT := []) (CT := t_Mo_dot_ct) (KT := []) (AN := n_Mo_dot_an) 0 200 (by decide +kernel) ⟨List.forall_mem_cons.mpr ⟨gf_Mo_369, List.forall_mem_cons.mpr ⟨gf_Mo_1329, List.forall_mem_cons.mpr ⟨gf_Mo_1332, List.forall_mem_nil _⟩⟩⟩, List.forall_mem_nil _, List.forall_mem_cons.mpr ⟨cl_static (y := y_Mo_in) c_Mo_in wm_2971 wm_9 wm_2969 wm_2970 ⟨by decide, by decide, by decide +kernel⟩ (by decide), List.forall_mem_nil _⟩, List.forall_mem_nil _⟩ (by decide +kernel)
abbrev b_Mo_edgeOf : ByteArray := prog_15_method_70_code
def y_Mo_edgeOf : MethodName := ⟨"DrawingHouseModel", "edgeOf", "(II)I"⟩
abbrev z_Mo_edgeOf : List Cond := Cond.code y_Mo_edgeOf b_Mo_edgeOf 4 (some .int) :: lw_g
def e_Mo_edgeOf : en_T := ([(2, 0, 0, [139]), (0, -1, 25, []), (0, -1, 24, [])], some (0, -1, 79, []), true, 2, 0, 0, [], [], [])
def n_Mo_edgeOf_an : List an_T := [(2, [(0, (2, 0, 0, [139])), (1, (0, -1, 25, [])), (2, (0, -1, 24, [])), (3, (0, 0, 80, []))], [], (0, 0), [(0, 0, 99998), (1, 3, 80), (0, 0, 100000)], [], [])]
def t_Mo_edgeOf_ct : ct_L := [(1, 600, e_Mo_at1)]
set_option maxRecDepth 100000 in
theorem c_Mo_edgeOf {l : Launch} {D : va_G} {kA : Nat → ClassId} : ct_ok l D kA GG y_Mo_edgeOf z_Mo_edgeOf e_Mo_edgeOf := chk_all_ok (FT := [(597, 13, 32)]) (PT := []) (CT := t_Mo_edgeOf_ct) (KT := []) (AN := n_Mo_edgeOf_an) 3 200 (by decide +kernel) ⟨List.forall_mem_cons.mpr ⟨gf_Mo_597, List.forall_mem_nil _⟩, List.forall_mem_nil _, List.forall_mem_cons.mpr ⟨cl_virtual (y := y_Mo_at1) (ci := 13) rfl rfl ⟨_, _, rfl⟩ (by decide +kernel) c_Mo_at1 wm_3159 wm_9 wm_3156 wm_3158 wv_14_15 ⟨by decide, by decide, by decide +kernel⟩ (by decide), List.forall_mem_nil _⟩, List.forall_mem_nil _⟩ (by decide +kernel)
abbrev b_Mo_fault : ByteArray := prog_15_method_24_code
def y_Mo_fault : MethodName := ⟨"DrawingHouseModel", "fault", "(I)I"⟩
abbrev z_Mo_fault : List Cond := Cond.code y_Mo_fault b_Mo_fault 2 (some .int) :: lw_g
def e_Mo_fault : en_T := ([(2, 0, 0, [139]), (0, -2147483648, 2147483647, [])], some (0, -1, 2000, []), true, 2, 0, 0, [([(2, 0, 0, [139]), (0, -2147483648, 2147483647, []), (0, -1, -1, [])], [], [2], [], [], []), ([(2, 0, 0, [139]), (0, -2147483648, -1, []), (0, -1, -1, [])], [], [2], [], [], []), ([(2, 0, 0, [139]), (0, 2, 2147483647, []), (0, -1, -1, [])], [], [2], [], [], []), ([(2, 0, 0, [139]), (0, 1, 1, []), (0, 0, 2000, [])], [], [2], [], [], []), ([(2, 0, 0, [139]), (0, 1, 1, []), (0, -1, -1, [])], [], [2], [], [], []), ([(2, 0, 0, [139]), (0, 0, 0, []), (0, 0, 5, [])], [], [2], [], [], [])], [], [])
def n_Mo_fault_an : List an_T := []
def t_Mo_fault_ct : ct_L := [(0, 387, e_Mo_in)]
set_option maxRecDepth 100000 in
theorem c_Mo_fault {l : Launch} {D : va_G} {kA : Nat → ClassId} : ct_ok l D kA GG y_Mo_fault z_Mo_fault e_Mo_fault := chk_all_ok (FT := [(409, 13, 7), (413, 13, 8), (416, 13, 9)]) (PT := []) (CT := t_Mo_fault_ct) (KT := []) (AN := n_Mo_fault_an) 0 200 (by decide +kernel) ⟨List.forall_mem_cons.mpr ⟨gf_Mo_409, List.forall_mem_cons.mpr ⟨gf_Mo_413, List.forall_mem_cons.mpr ⟨gf_Mo_416, List.forall_mem_nil _⟩⟩⟩, List.forall_mem_nil _, List.forall_mem_cons.mpr ⟨cl_static (y := y_Mo_in) c_Mo_in wm_2971 wm_9 wm_2969 wm_2970 ⟨by decide, by decide, by decide +kernel⟩ (by decide), List.forall_mem_nil _⟩, List.forall_mem_nil _⟩ (by decide +kernel)
abbrev b_Mo_firstFit : ByteArray := prog_15_method_80_code
def y_Mo_firstFit : MethodName := ⟨"DrawingHouseModel", "firstFit", "(I)I"⟩
abbrev z_Mo_firstFit : List Cond := Cond.code y_Mo_firstFit b_Mo_firstFit 3 (some .int) :: lw_g
def e_Mo_firstFit : en_T := ([(2, 0, 0, [139]), (0, 0, 79, [])], some (0, -1, 119, []), true, 2, 0, 0, [], [], [])
def n_Mo_firstFit_an : List an_T := [(2, [(0, (2, 0, 0, [139])), (1, (0, 0, 79, [])), (2, (0, 0, 120, []))], [], (0, 0), [(0, 0, 99998), (1, 2, 120), (0, 0, 100000)], [], [])]
def t_Mo_firstFit_ct : ct_L := [(1, 662, e_Mo_fitsFace)]
set_option maxRecDepth 100000 in
theorem c_Mo_firstFit {l : Launch} {D : va_G} {kA : Nat → ClassId} : ct_ok l D kA GG y_Mo_firstFit z_Mo_firstFit e_Mo_firstFit := chk_all_ok (FT := [(612, 13, 39)]) (PT := []) (CT := t_Mo_firstFit_ct) (KT := []) (AN := n_Mo_firstFit_an) 3 200 (by decide +kernel) ⟨List.forall_mem_cons.mpr ⟨gf_Mo_612, List.forall_mem_nil _⟩, List.forall_mem_nil _, List.forall_mem_cons.mpr ⟨cl_virtual (y := y_Mo_fitsFace) (ci := 13) rfl rfl ⟨_, _, rfl⟩ (by decide +kernel) c_Mo_fitsFace wm_3223 wm_9 wm_3220 wm_3222 wv_15_14 ⟨by decide, by decide, by decide +kernel⟩ (by decide), List.forall_mem_nil _⟩, List.forall_mem_nil _⟩ (by decide +kernel)
abbrev b_Mo_isDigit : ByteArray := prog_15_method_27_code
def y_Mo_isDigit : MethodName := ⟨"DrawingHouseModel", "isDigit", "(I)Z"⟩
abbrev z_Mo_isDigit : List Cond := Cond.code y_Mo_isDigit b_Mo_isDigit 1 (some .boolean) :: lw_g
def e_Mo_isDigit : en_T := ([(0, -1, 255, [])], some (0, 0, 1, []), true, 2, 0, 0, [([(0, -1, 47, []), (0, 0, 0, [])], [], [1], [], [], []), ([(0, 58, 255, []), (0, 0, 0, [])], [], [1], [], [], []), ([(0, 48, 57, []), (0, 1, 1, [])], [], [1], [], [], [])], [], [])
def n_Mo_isDigit_an : List an_T := []
def t_Mo_isDigit_ct : ct_L := [(0, 387, e_Mo_in)]
set_option maxRecDepth 100000 in
theorem c_Mo_isDigit {l : Launch} {D : va_G} {kA : Nat → ClassId} : ct_ok l D kA GG y_Mo_isDigit z_Mo_isDigit e_Mo_isDigit := chk_all_ok (FT := []) (PT := []) (CT := t_Mo_isDigit_ct) (KT := []) (AN := n_Mo_isDigit_an) 0 200 (by decide +kernel) ⟨List.forall_mem_nil _, List.forall_mem_nil _, List.forall_mem_cons.mpr ⟨cl_static (y := y_Mo_in) c_Mo_in wm_2971 wm_9 wm_2969 wm_2970 ⟨by decide, by decide, by decide +kernel⟩ (by decide), List.forall_mem_nil _⟩, List.forall_mem_nil _⟩ (by decide +kernel)
abbrev b_Mo_isLetter : ByteArray := prog_15_method_26_code
def y_Mo_isLetter : MethodName := ⟨"DrawingHouseModel", "isLetter", "(I)Z"⟩
abbrev z_Mo_isLetter : List Cond := Cond.code y_Mo_isLetter b_Mo_isLetter 1 (some .boolean) :: lw_g
def e_Mo_isLetter : en_T := ([(0, -1, 255, [])], some (0, 0, 1, []), true, 2, 0, 0, [([(0, -1, 64, []), (0, 0, 0, [])], [], [1], [], [], []), ([(0, 91, 96, []), (0, 0, 0, [])], [], [1], [], [], []), ([(0, 65, 90, []), (0, 1, 1, [])], [], [1], [], [], []), ([(0, 123, 255, []), (0, 0, 0, [])], [], [1], [], [], []), ([(0, 97, 122, []), (0, 1, 1, [])], [], [1], [], [], [])], [], [])
def n_Mo_isLetter_an : List an_T := []
def t_Mo_isLetter_ct : ct_L := [(0, 387, e_Mo_in)]
set_option maxRecDepth 100000 in
theorem c_Mo_isLetter {l : Launch} {D : va_G} {kA : Nat → ClassId} : ct_ok l D kA GG y_Mo_isLetter z_Mo_isLetter e_Mo_isLetter := chk_all_ok (FT := []) (PT := []) (CT := t_Mo_isLetter_ct) (KT := []) (AN := n_Mo_isLetter_an) 0 200 (by decide +kernel) ⟨List.forall_mem_nil _, List.forall_mem_nil _, List.forall_mem_cons.mpr ⟨cl_static (y := y_Mo_in) c_Mo_in wm_2971 wm_9 wm_2969 wm_2970 ⟨by decide, by decide, by decide +kernel⟩ (by decide), List.forall_mem_nil _⟩, List.forall_mem_nil _⟩ (by decide +kernel)
abbrev b_Mo_isPlace : ByteArray := prog_15_method_9_code
def y_Mo_isPlace : MethodName := ⟨"DrawingHouseModel", "isPlace", "(I)Z"⟩
abbrev z_Mo_isPlace : List Cond := Cond.code y_Mo_isPlace b_Mo_isPlace 1 (some .boolean) :: lw_g
def e_Mo_isPlace : en_T := ([(0, -2147483648, 2147483647, [])], some (0, 0, 1, []), true, 2, 0, 0, [([(0, -2147483648, -1, []), (0, 0, 0, [])], [], [1], [], [], []), ([(0, 4, 2147483647, []), (0, 0, 0, [])], [], [1], [], [], []), ([(0, 0, 3, []), (0, 1, 1, [])], [], [1], [], [], [])], [], [])
def n_Mo_isPlace_an : List an_T := []
def t_Mo_isPlace_ct : ct_L := [(0, 387, e_Mo_in)]
set_option maxRecDepth 100000 in
theorem c_Mo_isPlace {l : Launch} {D : va_G} {kA : Nat → ClassId} : ct_ok l D kA GG y_Mo_isPlace z_Mo_isPlace e_Mo_isPlace := chk_all_ok (FT := []) (PT := []) (CT := t_Mo_isPlace_ct) (KT := []) (AN := n_Mo_isPlace_an) 0 200 (by decide +kernel) ⟨List.forall_mem_nil _, List.forall_mem_nil _, List.forall_mem_cons.mpr ⟨cl_static (y := y_Mo_in) c_Mo_in wm_2971 wm_9 wm_2969 wm_2970 ⟨by decide, by decide, by decide +kernel⟩ (by decide), List.forall_mem_nil _⟩, List.forall_mem_nil _⟩ (by decide +kernel)
abbrev b_Mo_join : ByteArray := prog_15_method_67_code
def y_Mo_join : MethodName := ⟨"DrawingHouseModel", "join", "(II)V"⟩
abbrev z_Mo_join : List Cond := Cond.code y_Mo_join b_Mo_join 4 none :: lw_g
def e_Mo_join : en_T := ([(2, 0, 0, [139]), (0, -1, 79, []), (0, -1, 79, [])], none, false, 2, 0, 0, [], [], [])
def n_Mo_join_an : List an_T := [(8, [(0, (2, 0, 0, [139])), (1, (0, -1, 79, [])), (2, (0, -1, 79, [])), (3, (0, 0, 80, []))], [], (0, 0), [(0, 0, 99992), (1, 3, 80), (0, 0, 100000)], [], [])]
def t_Mo_join_ct : ct_L := [(0, 547, e_Mo_min)]
set_option maxRecDepth 100000 in
theorem c_Mo_join {l : Launch} {D : va_G} {kA : Nat → ClassId} : ct_ok l D kA GG y_Mo_join z_Mo_join e_Mo_join := chk_all_ok (FT := [(32, 13, 17), (597, 13, 32)]) (PT := []) (CT := t_Mo_join_ct) (KT := []) (AN := n_Mo_join_an) 3 200 (by decide +kernel) ⟨List.forall_mem_cons.mpr ⟨gf_Mo_32, List.forall_mem_cons.mpr ⟨gf_Mo_597, List.forall_mem_nil _⟩⟩, List.forall_mem_nil _, List.forall_mem_cons.mpr ⟨cl_static (y := y_Mo_min) c_Mo_min wm_3174 wm_9 wm_3172 wm_3173 ⟨by decide, by decide, by decide +kernel⟩ (by decide), List.forall_mem_nil _⟩, List.forall_mem_nil _⟩ (by decide +kernel)
abbrev b_Mo_map : ByteArray := prog_15_method_61_code
def y_Mo_map : MethodName := ⟨"DrawingHouseModel", "map", "(I)I"⟩
abbrev z_Mo_map : List Cond := Cond.code y_Mo_map b_Mo_map 2 (some .int) :: lw_g
def e_Mo_map : en_T := ([(2, 0, 0, [139]), (0, -2147483648, 2147483647, [])], some (0, -1, 20000, []), true, 2, 0, 0, [([(2, 0, 0, [139]), (0, -2147483648, 2147483647, []), (0, -1, -1, [])], [], [2], [], [], []), ([(2, 0, 0, [139]), (0, -2147483648, -1, []), (0, -1, -1, [])], [], [2], [], [], []), ([(2, 0, 0, [139]), (0, 0, 2147483647, []), (0, -1, -1, [])], [], [2], [], [], []), ([(2, 0, 0, [139]), (0, 0, 23, []), (0, 0, 23, [])], [], [2], [], [], []), ([(2, 0, 0, [139]), (0, -1, -1, []), (0, -1, -1, [])], [], [2], [], [], []), ([(2, 0, 0, [139]), (0, -1, -1, []), (0, 0, 20000, [])], [], [2], [], [], [])], [], [])
def n_Mo_map_an : List an_T := []
def t_Mo_map_ct : ct_L := [(0, 387, e_Mo_in)]
set_option maxRecDepth 100000 in
theorem c_Mo_map {l : Launch} {D : va_G} {kA : Nat → ClassId} : ct_ok l D kA GG y_Mo_map z_Mo_map e_Mo_map := chk_all_ok (FT := [(51, 13, 23), (572, 13, 27), (575, 13, 30), (581, 13, 25), (584, 13, 26)]) (PT := []) (CT := t_Mo_map_ct) (KT := []) (AN := n_Mo_map_an) 0 200 (by decide +kernel) ⟨List.forall_mem_cons.mpr ⟨gf_Mo_51, List.forall_mem_cons.mpr ⟨gf_Mo_572, List.forall_mem_cons.mpr ⟨gf_Mo_575, List.forall_mem_cons.mpr ⟨gf_Mo_581, List.forall_mem_cons.mpr ⟨gf_Mo_584, List.forall_mem_nil _⟩⟩⟩⟩⟩, List.forall_mem_nil _, List.forall_mem_cons.mpr ⟨cl_static (y := y_Mo_in) c_Mo_in wm_2971 wm_9 wm_2969 wm_2970 ⟨by decide, by decide, by decide +kernel⟩ (by decide), List.forall_mem_nil _⟩, List.forall_mem_nil _⟩ (by decide +kernel)
abbrev b_Mo_octet : ByteArray := prog_15_method_241_code
def y_Mo_octet : MethodName := ⟨"DrawingHouseModel", "octet", "(I)I"⟩
abbrev z_Mo_octet : List Cond := Cond.code y_Mo_octet b_Mo_octet 2 (some .int) :: lw_g
def e_Mo_octet : en_T := ([(2, 0, 0, [139]), (0, -2147483648, 2147483647, [])], some (0, -128, 127, []), true, 2, 0, 0, [([(2, 0, 0, [139]), (0, -2147483648, -1, []), (0, -1, -1, [])], [], [2], [], [], []), ([(2, 0, 0, [139]), (0, 0, 2147483647, []), (0, -1, -1, [])], [], [2], [], [], []), ([(2, 0, 0, [139]), (0, 0, 3999, []), (0, -128, 127, [])], [], [2], [], [], [])], [], [])
def n_Mo_octet_an : List an_T := []
def t_Mo_octet_ct : ct_L := [(0, 387, e_Mo_in)]
set_option maxRecDepth 100000 in
theorem c_Mo_octet {l : Launch} {D : va_G} {kA : Nat → ClassId} : ct_ok l D kA GG y_Mo_octet z_Mo_octet e_Mo_octet := chk_all_ok (FT := [(363, 13, 171), (1326, 13, 169)]) (PT := []) (CT := t_Mo_octet_ct) (KT := []) (AN := n_Mo_octet_an) 0 200 (by decide +kernel) ⟨List.forall_mem_cons.mpr ⟨gf_Mo_363, List.forall_mem_cons.mpr ⟨gf_Mo_1326, List.forall_mem_nil _⟩⟩, List.forall_mem_nil _, List.forall_mem_cons.mpr ⟨cl_static (y := y_Mo_in) c_Mo_in wm_2971 wm_9 wm_2969 wm_2970 ⟨by decide, by decide, by decide +kernel⟩ (by decide), List.forall_mem_nil _⟩, List.forall_mem_nil _⟩ (by decide +kernel)
abbrev b_Mo_take : ByteArray := prog_15_method_10_code
def y_Mo_take : MethodName := ⟨"DrawingHouseModel", "take", "(I)V"⟩
abbrev z_Mo_take : List Cond := Cond.code y_Mo_take b_Mo_take 2 none :: lw_g
def e_Mo_take : en_T := ([(2, 0, 0, [139]), (0, 0, 3, [])], none, false, 2, 0, 0, [], [], [(13, 5)])
def n_Mo_take_an : List an_T := []
def t_Mo_take_ct : ct_L := [(0, 372, e_Mo_rowOf)]
set_option maxRecDepth 100000 in
theorem c_Mo_take {l : Launch} {D : va_G} {kA : Nat → ClassId} : ct_ok l D kA GG y_Mo_take z_Mo_take e_Mo_take := chk_all_ok (FT := [(20, 13, 3)]) (PT := [(391, 13, 5, .int)]) (CT := t_Mo_take_ct) (KT := []) (AN := n_Mo_take_an) 0 200 (by decide +kernel) ⟨List.forall_mem_cons.mpr ⟨gf_Mo_20, List.forall_mem_nil _⟩, List.forall_mem_cons.mpr ⟨pf_Mo_391, List.forall_mem_nil _⟩, List.forall_mem_cons.mpr ⟨cl_static (y := y_Mo_rowOf) c_Mo_rowOf wm_2420 wm_9 wm_2418 wm_2419 ⟨by decide, by decide, by decide +kernel⟩ (by decide), List.forall_mem_nil _⟩, List.forall_mem_nil _⟩ (by decide +kernel)
abbrev b_Mo_worst : ByteArray := prog_15_method_169_code
def y_Mo_worst : MethodName := ⟨"DrawingHouseModel", "worst", "(IIIIII)V"⟩
abbrev z_Mo_worst : List Cond := Cond.code y_Mo_worst b_Mo_worst 20 none :: lw_g
def e_Mo_worst : en_T := ([(2, 0, 0, [139]), (0, 0, 47, []), (0, 1, 40, []), (0, -2147483648, 2147483647, []), (0, -2147483648, 2147483647, []), (0, -2147483648, 2147483647, []), (0, -2147483648, 2147483647, [])], none, false, 2, 0, 0, [], [], [(13, 133), (13, 134)])
def n_Mo_worst_an : List an_T := [(31, [(0, (2, 0, 0, [139])), (1, (0, 0, 47, [])), (2, (0, 1, 40, [])), (3, (0, -2147483648, 2147483647, [])), (4, (0, -2147483648, 2147483647, [])), (5, (0, -2147483648, 2147483647, [])), (6, (0, -2147483648, 2147483647, [])), (7, (1, 1, 2147483647, [])), (9, (1, 1, 2147483647, [])), (11, (0, 0, 47, []))], [], (0, 0), [(0, 0, 99969), (1, 9, 47), (0, 0, 100000)], [], [])]
def t_Mo_worst_ct : ct_L := [(0, 855, e_Mo_max)]
set_option maxRecDepth 100000 in
theorem c_Mo_worst {l : Launch} {D : va_G} {kA : Nat → ClassId} : ct_ok l D kA GG y_Mo_worst z_Mo_worst e_Mo_worst := chk_all_ok (FT := [(302, 13, 131), (977, 13, 133), (981, 13, 134)]) (PT := [(977, 13, 133, .long), (981, 13, 134, .long)]) (CT := t_Mo_worst_ct) (KT := []) (AN := n_Mo_worst_an) 3 660 (by decide +kernel) ⟨List.forall_mem_cons.mpr ⟨gf_Mo_302, List.forall_mem_cons.mpr ⟨gf_Mo_977, List.forall_mem_cons.mpr ⟨gf_Mo_981, List.forall_mem_nil _⟩⟩⟩, List.forall_mem_cons.mpr ⟨pf_Mo_977, List.forall_mem_cons.mpr ⟨pf_Mo_981, List.forall_mem_nil _⟩⟩, List.forall_mem_cons.mpr ⟨cl_static (y := y_Mo_max) c_Mo_max wm_3430 wm_9 wm_3428 wm_3429 ⟨by decide, by decide, by decide +kernel⟩ (by decide), List.forall_mem_nil _⟩, List.forall_mem_nil _⟩ (by decide +kernel)
abbrev b_Dr_coordinate : ByteArray := prog_2_method_5_code
def y_Dr_coordinate : MethodName := ⟨"DrawingHouse$Drawing", "coordinate", "(III)I"⟩
abbrev z_Dr_coordinate : List Cond := Cond.code y_Dr_coordinate b_Dr_coordinate 4 (some .int) :: lw_g
def e_Dr_coordinate : en_T := ([(2, 0, 0, [0]), (0, -2147483648, 2147483647, []), (0, -2147483648, 2147483647, []), (0, -2147483648, 2147483647, [])], some (0, -2147483648, 2147483647, []), true, 2, 0, 0, [], [], [])
def n_Dr_coordinate_an : List an_T := []
def t_Dr_coordinate_ct : ct_L := [(1, 85, e_Gr_hasNode), (1, 91, e_Gr_hasEdge)]
set_option maxRecDepth 100000 in
theorem c_Dr_coordinate {l : Launch} {D : va_G} {kA : Nat → ClassId} : ct_ok l D kA GG y_Dr_coordinate z_Dr_coordinate e_Dr_coordinate := chk_all_ok (FT := [(9, 0, 1), (15, 0, 2), (19, 0, 3), (22, 0, 4), (25, 0, 5), (28, 0, 6), (74, 0, 0)]) (PT := []) (CT := t_Dr_coordinate_ct) (KT := [(0, 84, .int (Int32.ofInt (-2147483648)), (0, -2147483648, -2147483648, []))]) (AN := n_Dr_coordinate_an) 0 496 (by decide +kernel) ⟨List.forall_mem_cons.mpr ⟨gf_Dr_9, List.forall_mem_cons.mpr ⟨gf_Dr_15, List.forall_mem_cons.mpr ⟨gf_Dr_19, List.forall_mem_cons.mpr ⟨gf_Dr_22, List.forall_mem_cons.mpr ⟨gf_Dr_25, List.forall_mem_cons.mpr ⟨gf_Dr_28, List.forall_mem_cons.mpr ⟨gf_Dr_74, List.forall_mem_nil _⟩⟩⟩⟩⟩⟩⟩, List.forall_mem_nil _, List.forall_mem_cons.mpr ⟨cl_virtual (y := y_Gr_hasNode) (ci := 3) rfl rfl ⟨_, _, rfl⟩ (by decide +kernel) c_Gr_hasNode wm_921 wm_3 wm_1822 wm_919 wm_920 ⟨by decide, by decide, by decide +kernel⟩ (by decide), List.forall_mem_cons.mpr ⟨cl_virtual (y := y_Gr_hasEdge) (ci := 3) rfl rfl ⟨_, _, rfl⟩ (by decide +kernel) c_Gr_hasEdge wm_930 wm_3 wm_1823 wm_928 wm_929 ⟨by decide, by decide, by decide +kernel⟩ (by decide), List.forall_mem_nil _⟩⟩, List.forall_mem_cons.mpr ⟨kx_Dr_0_84, List.forall_mem_nil _⟩⟩ (by decide +kernel)
abbrev b_Dr_countSlanted : ByteArray := prog_2_method_32_code
def y_Dr_countSlanted : MethodName := ⟨"DrawingHouse$Drawing", "countSlanted", "()J"⟩
abbrev z_Dr_countSlanted : List Cond := Cond.code y_Dr_countSlanted b_Dr_countSlanted 5 (some .long) :: lw_g
def e_Dr_countSlanted : en_T := ([(2, 0, 0, [0])], some (1, -9223372036854775808, 9223372036854775807, []), true, 2, 0, 0, [], [], [])
def n_Dr_countSlanted_an : List an_T := [(4, [(0, (2, 0, 0, [0])), (1, (1, -9223372036854775808, 9223372036854775807, [])), (3, (0, 0, 48, []))], [], (0, 0), [(0, 0, 99996), (1, 2, 48), (0, 0, 100000), (0, 0, 0), (0, 0, 0)], [], []), (18, [(0, (2, 0, 0, [0])), (1, (1, -9223372036854775808, 9223372036854775807, [])), (3, (0, 0, 47, [])), (4, (0, 0, 25, []))], [], (0, 0), [(0, 0, 99996), (1, 2, 48), (0, 0, 99982), (1, 3, 25), (0, 0, 100000)], [], [])]
def t_Dr_countSlanted_ct : ct_L := [(1, 128, e_Dr_pointX), (1, 134, e_Dr_pointY)]
set_option maxRecDepth 100000 in
theorem c_Dr_countSlanted {l : Launch} {D : va_G} {kA : Nat → ClassId} : ct_ok l D kA GG y_Dr_countSlanted z_Dr_countSlanted e_Dr_countSlanted := chk_all_ok (FT := [(22, 0, 4), (74, 0, 0), (151, 3, 1)]) (PT := []) (CT := t_Dr_countSlanted_ct) (KT := []) (AN := n_Dr_countSlanted_an) 5 1300 (by decide +kernel) ⟨List.forall_mem_cons.mpr ⟨gf_Dr_22, List.forall_mem_cons.mpr ⟨gf_Dr_74, List.forall_mem_cons.mpr ⟨gf_Dr_151, List.forall_mem_nil _⟩⟩⟩, List.forall_mem_nil _, List.forall_mem_cons.mpr ⟨cl_virtual (y := y_Dr_pointX) (ci := 0) rfl rfl ⟨_, _, rfl⟩ (by decide +kernel) c_Dr_pointX wm_1986 wm_8 wm_1983 wm_1984 wm_1985 ⟨by decide, by decide, by decide +kernel⟩ (by decide), List.forall_mem_cons.mpr ⟨cl_virtual (y := y_Dr_pointY) (ci := 0) rfl rfl ⟨_, _, rfl⟩ (by decide +kernel) c_Dr_pointY wm_1991 wm_8 wm_1988 wm_1989 wm_1990 ⟨by decide, by decide, by decide +kernel⟩ (by decide), List.forall_mem_nil _⟩⟩, List.forall_mem_nil _⟩ (by decide +kernel)
abbrev b_Dr_move : ByteArray := prog_2_method_9_code
def y_Dr_move : MethodName := ⟨"DrawingHouse$Drawing", "move", "(IIII)Z"⟩
abbrev z_Dr_move : List Cond := Cond.code y_Dr_move b_Dr_move 5 (some .boolean) :: lw_g
def e_Dr_move : en_T := ([(2, 0, 0, [0]), (0, -2147483648, 2147483647, []), (0, -2147483648, 2147483647, []), (0, -2147483648, 2147483647, []), (0, -2147483648, 2147483647, [])], some (0, 0, 1, []), false, 2, 0, 0, [], [], [])
def n_Dr_move_an : List an_T := []
def t_Dr_move_ct : ct_L := [(1, 85, e_Gr_hasNode), (1, 91, e_Gr_hasEdge)]
set_option maxRecDepth 100000 in
theorem c_Dr_move {l : Launch} {D : va_G} {kA : Nat → ClassId} : ct_ok l D kA GG y_Dr_move z_Dr_move e_Dr_move := chk_all_ok (FT := [(9, 0, 1), (15, 0, 2), (19, 0, 3), (22, 0, 4), (25, 0, 5), (28, 0, 6), (74, 0, 0)]) (PT := []) (CT := t_Dr_move_ct) (KT := [(0, 104, .int (Int32.ofInt (-1000000)), (0, -1000000, -1000000, [])), (0, 105, .int (1000000), (0, 1000000, 1000000, []))]) (AN := n_Dr_move_an) 0 380 (by decide +kernel) ⟨List.forall_mem_cons.mpr ⟨gf_Dr_9, List.forall_mem_cons.mpr ⟨gf_Dr_15, List.forall_mem_cons.mpr ⟨gf_Dr_19, List.forall_mem_cons.mpr ⟨gf_Dr_22, List.forall_mem_cons.mpr ⟨gf_Dr_25, List.forall_mem_cons.mpr ⟨gf_Dr_28, List.forall_mem_cons.mpr ⟨gf_Dr_74, List.forall_mem_nil _⟩⟩⟩⟩⟩⟩⟩, List.forall_mem_nil _, List.forall_mem_cons.mpr ⟨cl_virtual (y := y_Gr_hasNode) (ci := 3) rfl rfl ⟨_, _, rfl⟩ (by decide +kernel) c_Gr_hasNode wm_921 wm_3 wm_1822 wm_919 wm_920 ⟨by decide, by decide, by decide +kernel⟩ (by decide), List.forall_mem_cons.mpr ⟨cl_virtual (y := y_Gr_hasEdge) (ci := 3) rfl rfl ⟨_, _, rfl⟩ (by decide +kernel) c_Gr_hasEdge wm_930 wm_3 wm_1823 wm_928 wm_929 ⟨by decide, by decide, by decide +kernel⟩ (by decide), List.forall_mem_nil _⟩⟩, List.forall_mem_cons.mpr ⟨kx_Dr_0_104, List.forall_mem_cons.mpr ⟨kx_Dr_0_105, List.forall_mem_nil _⟩⟩⟩ (by decide +kernel)
abbrev b_Dr_reportArea : ByteArray := prog_2_method_8_code
def y_Dr_reportArea : MethodName := ⟨"DrawingHouse$Drawing", "reportArea", "(II)I"⟩
abbrev z_Dr_reportArea : List Cond := Cond.code y_Dr_reportArea b_Dr_reportArea 3 (some .int) :: lw_g
def e_Dr_reportArea : en_T := ([(2, 0, 0, [0]), (0, -2147483648, 2147483647, []), (0, -2147483648, 2147483647, [])], some (0, -2147483648, 2147483647, []), true, 2, 0, 0, [], [], [])
def n_Dr_reportArea_an : List an_T := []
def t_Dr_reportArea_ct : ct_L := [(1, 85, e_Gr_hasNode), (1, 101, e_Gr_hasGroup)]
set_option maxRecDepth 100000 in
theorem c_Dr_reportArea {l : Launch} {D : va_G} {kA : Nat → ClassId} : ct_ok l D kA GG y_Dr_reportArea z_Dr_reportArea e_Dr_reportArea := chk_all_ok (FT := [(50, 0, 13), (74, 0, 0)]) (PT := []) (CT := t_Dr_reportArea_ct) (KT := []) (AN := n_Dr_reportArea_an) 0 284 (by decide +kernel) ⟨List.forall_mem_cons.mpr ⟨gf_Dr_50, List.forall_mem_cons.mpr ⟨gf_Dr_74, List.forall_mem_nil _⟩⟩, List.forall_mem_nil _, List.forall_mem_cons.mpr ⟨cl_virtual (y := y_Gr_hasNode) (ci := 3) rfl rfl ⟨_, _, rfl⟩ (by decide +kernel) c_Gr_hasNode wm_921 wm_3 wm_1822 wm_919 wm_920 ⟨by decide, by decide, by decide +kernel⟩ (by decide), List.forall_mem_cons.mpr ⟨cl_virtual (y := y_Gr_hasGroup) (ci := 3) rfl rfl ⟨_, _, rfl⟩ (by decide +kernel) c_Gr_hasGroup wm_942 wm_3 wm_1841 wm_940 wm_941 ⟨by decide, by decide, by decide +kernel⟩ (by decide), List.forall_mem_nil _⟩⟩, List.forall_mem_nil _⟩ (by decide +kernel)
