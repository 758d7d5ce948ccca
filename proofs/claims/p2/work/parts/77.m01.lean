abbrev b_St_addArc : ByteArray := prog_12_method_5_code
def y_St_addArc : MethodName := ⟨"DrawingHouse$Stretch", "addArc", "(IIII)V"⟩
abbrev z_St_addArc : List Cond := Cond.code y_St_addArc b_St_addArc 5 none :: lw_g
def e_St_addArc : en_T := ([(2, 0, 0, [10]), (0, 0, 71, []), (0, 0, 71, []), (0, 0, 1000000000, []), (0, -20, 20, [])], none, false, 1, 0, 0, [], [], [(10, 1)])
def n_St_addArc_an : List an_T := []
def t_St_addArc_ct : ct_L := []
set_option maxRecDepth 100000 in
theorem c_St_addArc {l : Launch} {D : va_G} {kA : Nat → ClassId} : ct_ok l D kA GG y_St_addArc z_St_addArc e_St_addArc := chk_all_ok (FT := [(15, 10, 1), (18, 10, 2), (22, 10, 3), (25, 10, 4), (28, 10, 5)]) (PT := [(15, 10, 1, .int)]) (CT := t_St_addArc_ct) (KT := []) (AN := n_St_addArc_an) 0 200 (by decide +kernel) ⟨List.forall_mem_cons.mpr ⟨gf_St_15, List.forall_mem_cons.mpr ⟨gf_St_18, List.forall_mem_cons.mpr ⟨gf_St_22, List.forall_mem_cons.mpr ⟨gf_St_25, List.forall_mem_cons.mpr ⟨gf_St_28, List.forall_mem_nil _⟩⟩⟩⟩⟩, List.forall_mem_cons.mpr ⟨pf_St_15, List.forall_mem_nil _⟩, List.forall_mem_nil _, List.forall_mem_nil _⟩ (by decide +kernel)
abbrev b_St_begin : ByteArray := prog_12_method_2_code
def y_St_begin : MethodName := ⟨"DrawingHouse$Stretch", "begin", "(I)V"⟩
abbrev z_St_begin : List Cond := Cond.code y_St_begin b_St_begin 2 none :: lw_g
def e_St_begin : en_T := ([(2, 0, 0, [10]), (0, 0, 72, [])], none, false, 1, 0, 0, [], [], [(10, 0), (10, 1)])
def n_St_begin_an : List an_T := []
def t_St_begin_ct : ct_L := []
set_option maxRecDepth 100000 in
theorem c_St_begin {l : Launch} {D : va_G} {kA : Nat → ClassId} : ct_ok l D kA GG y_St_begin z_St_begin e_St_begin := chk_all_ok (FT := []) (PT := [(9, 10, 0, .int), (15, 10, 1, .int)]) (CT := t_St_begin_ct) (KT := []) (AN := n_St_begin_an) 0 200 (by decide +kernel) ⟨List.forall_mem_nil _, List.forall_mem_cons.mpr ⟨pf_St_9, List.forall_mem_cons.mpr ⟨pf_St_15, List.forall_mem_nil _⟩⟩, List.forall_mem_nil _, List.forall_mem_nil _⟩ (by decide +kernel)
abbrev b_St_raise : ByteArray := prog_12_method_8_code
def y_St_raise : MethodName := ⟨"DrawingHouse$Stretch", "raise", "()Z"⟩
abbrev z_St_raise : List Cond := Cond.code y_St_raise b_St_raise 3 (some .boolean) :: lw_g
def e_St_raise : en_T := ([(2, 0, 0, [10])], some (0, 0, 1, []), false, 1, 0, 0, [], [], [])
def n_St_raise_an : List an_T := [(4, [(0, (2, 0, 0, [10])), (1, (0, 0, 1, [])), (2, (0, 0, 384, []))], [], (0, 0), [(0, 0, 99996), (1, 2, 384), (0, 0, 100000)], [], [])]
def t_St_raise_ct : ct_L := []
set_option maxRecDepth 100000 in
theorem c_St_raise {l : Launch} {D : va_G} {kA : Nat → ClassId} : ct_ok l D kA GG y_St_raise z_St_raise e_St_raise := chk_all_ok (FT := [(15, 10, 1), (18, 10, 2), (22, 10, 3), (25, 10, 4), (28, 10, 5), (31, 10, 6), (34, 10, 7)]) (PT := []) (CT := t_St_raise_ct) (KT := []) (AN := n_St_raise_an) 3 280 (by decide +kernel) ⟨List.forall_mem_cons.mpr ⟨gf_St_15, List.forall_mem_cons.mpr ⟨gf_St_18, List.forall_mem_cons.mpr ⟨gf_St_22, List.forall_mem_cons.mpr ⟨gf_St_25, List.forall_mem_cons.mpr ⟨gf_St_28, List.forall_mem_cons.mpr ⟨gf_St_31, List.forall_mem_cons.mpr ⟨gf_St_34, List.forall_mem_nil _⟩⟩⟩⟩⟩⟩⟩, List.forall_mem_nil _, List.forall_mem_nil _, List.forall_mem_nil _⟩ (by decide +kernel)
abbrev b_Sy_emit : ByteArray := prog_13_method_8_code
def y_Sy_emit : MethodName := ⟨"DrawingHouse$Styler", "emit", "(II)V"⟩
abbrev z_Sy_emit : List Cond := Cond.code y_Sy_emit b_Sy_emit 3 none :: lw_g
def e_Sy_emit : en_T := ([(2, 0, 0, [11]), (0, 1, 11, []), (0, -2147483648, 2147483647, [])], none, false, 1, 0, 0, [], [], [(11, 11)])
def n_Sy_emit_an : List an_T := []
def t_Sy_emit_ct : ct_L := []
set_option maxRecDepth 100000 in
theorem c_Sy_emit {l : Launch} {D : va_G} {kA : Nat → ClassId} : ct_ok l D kA GG y_Sy_emit z_Sy_emit e_Sy_emit := chk_all_ok (FT := [(46, 11, 10), (50, 11, 11)]) (PT := [(50, 11, 11, .int)]) (CT := t_Sy_emit_ct) (KT := []) (AN := n_Sy_emit_an) 0 200 (by decide +kernel) ⟨List.forall_mem_cons.mpr ⟨gf_Sy_46, List.forall_mem_cons.mpr ⟨gf_Sy_50, List.forall_mem_nil _⟩⟩, List.forall_mem_cons.mpr ⟨pf_Sy_50, List.forall_mem_nil _⟩, List.forall_mem_nil _, List.forall_mem_nil _⟩ (by decide +kernel)
abbrev b_Sy_fail : ByteArray := prog_13_method_3_code
def y_Sy_fail : MethodName := ⟨"DrawingHouse$Styler", "fail", "(I)Z"⟩
abbrev z_Sy_fail : List Cond := Cond.code y_Sy_fail b_Sy_fail 2 (some .boolean) :: lw_g
def e_Sy_fail : en_T := ([(2, 0, 0, [11]), (0, 1, 2, [])], some (0, 0, 0, []), false, 1, 0, 0, [], [], [(11, 1), (11, 2)])
def n_Sy_fail_an : List an_T := []
def t_Sy_fail_ct : ct_L := []
set_option maxRecDepth 100000 in
theorem c_Sy_fail {l : Launch} {D : va_G} {kA : Nat → ClassId} : ct_ok l D kA GG y_Sy_fail z_Sy_fail e_Sy_fail := chk_all_ok (FT := [(34, 11, 7)]) (PT := [(15, 11, 1, .int), (18, 11, 2, .int)]) (CT := t_Sy_fail_ct) (KT := []) (AN := n_Sy_fail_an) 0 200 (by decide +kernel) ⟨List.forall_mem_cons.mpr ⟨gf_Sy_34, List.forall_mem_nil _⟩, List.forall_mem_cons.mpr ⟨pf_Sy_15, List.forall_mem_cons.mpr ⟨pf_Sy_18, List.forall_mem_nil _⟩⟩, List.forall_mem_nil _, List.forall_mem_nil _⟩ (by decide +kernel)
abbrev b_Sy_isSmall : ByteArray := prog_13_method_4_code
def y_Sy_isSmall : MethodName := ⟨"DrawingHouse$Styler", "isSmall", "(I)Z"⟩
abbrev z_Sy_isSmall : List Cond := Cond.code y_Sy_isSmall b_Sy_isSmall 1 (some .boolean) :: lw_g
def e_Sy_isSmall : en_T := ([(0, -128, 127, [])], some (0, 0, 1, []), true, 1, 0, 0, [([(0, -128, 96, []), (0, 0, 0, [])], [], [1], [], [], []), ([(0, 123, 127, []), (0, 0, 0, [])], [], [1], [], [], []), ([(0, 97, 122, []), (0, 1, 1, [])], [], [1], [], [], [])], [], [])
def n_Sy_isSmall_an : List an_T := []
def t_Sy_isSmall_ct : ct_L := []
set_option maxRecDepth 100000 in
theorem c_Sy_isSmall {l : Launch} {D : va_G} {kA : Nat → ClassId} : ct_ok l D kA GG y_Sy_isSmall z_Sy_isSmall e_Sy_isSmall := chk_all_ok (FT := []) (PT := []) (CT := t_Sy_isSmall_ct) (KT := []) (AN := n_Sy_isSmall_an) 0 200 (by decide +kernel) ⟨List.forall_mem_nil _, List.forall_mem_nil _, List.forall_mem_nil _, List.forall_mem_nil _⟩ (by decide +kernel)
abbrev b_Sy_pop : ByteArray := prog_13_method_23_code
def y_Sy_pop : MethodName := ⟨"DrawingHouse$Styler", "pop", "()J"⟩
abbrev z_Sy_pop : List Cond := Cond.code y_Sy_pop b_Sy_pop 1 (some .long) :: lw_g
def e_Sy_pop : en_T := ([(2, 0, 0, [11])], some (1, -9223372036854775808, 9223372036854775807, []), false, 1, 0, 0, [], [], [(11, 15)])
def n_Sy_pop_an : List an_T := []
def t_Sy_pop_ct : ct_L := []
set_option maxRecDepth 100000 in
theorem c_Sy_pop {l : Launch} {D : va_G} {kA : Nat → ClassId} : ct_ok l D kA GG y_Sy_pop z_Sy_pop e_Sy_pop := chk_all_ok (FT := [(59, 11, 14), (63, 11, 15)]) (PT := [(63, 11, 15, .int)]) (CT := t_Sy_pop_ct) (KT := []) (AN := n_Sy_pop_an) 0 200 (by decide +kernel) ⟨List.forall_mem_cons.mpr ⟨gf_Sy_59, List.forall_mem_cons.mpr ⟨gf_Sy_63, List.forall_mem_nil _⟩⟩, List.forall_mem_cons.mpr ⟨pf_Sy_63, List.forall_mem_nil _⟩, List.forall_mem_nil _, List.forall_mem_nil _⟩ (by decide +kernel)
abbrev b_Sy_push : ByteArray := prog_13_method_22_code
def y_Sy_push : MethodName := ⟨"DrawingHouse$Styler", "push", "(J)V"⟩
abbrev z_Sy_push : List Cond := Cond.code y_Sy_push b_Sy_push 3 none :: lw_g
def e_Sy_push : en_T := ([(2, 0, 0, [11]), (1, -9223372036854775808, 9223372036854775807, [])], none, false, 1, 0, 0, [], [], [(11, 15)])
def n_Sy_push_an : List an_T := []
def t_Sy_push_ct : ct_L := []
set_option maxRecDepth 100000 in
theorem c_Sy_push {l : Launch} {D : va_G} {kA : Nat → ClassId} : ct_ok l D kA GG y_Sy_push z_Sy_push e_Sy_push := chk_all_ok (FT := [(59, 11, 14), (63, 11, 15)]) (PT := [(63, 11, 15, .int)]) (CT := t_Sy_push_ct) (KT := []) (AN := n_Sy_push_an) 0 200 (by decide +kernel) ⟨List.forall_mem_cons.mpr ⟨gf_Sy_59, List.forall_mem_cons.mpr ⟨gf_Sy_63, List.forall_mem_nil _⟩⟩, List.forall_mem_cons.mpr ⟨pf_Sy_63, List.forall_mem_nil _⟩, List.forall_mem_nil _, List.forall_mem_nil _⟩ (by decide +kernel)
abbrev b_Mo_across1 : ByteArray := prog_15_method_63_code
def y_Mo_across1 : MethodName := ⟨"DrawingHouseModel", "across", "(II)I"⟩
abbrev z_Mo_across1 : List Cond := Cond.code y_Mo_across1 b_Mo_across1 3 (some .int) :: lw_g
def e_Mo_across1 : en_T := ([(2, 0, 0, [139]), (0, 0, 79, []), (0, 0, 24, [])], some (0, 0, 24, []), true, 1, 0, 0, [([(2, 0, 0, [139]), (0, 0, 79, []), (0, 0, 24, []), (0, 0, 24, [])], [], [3], [], [], [])], [], [])
def n_Mo_across1_an : List an_T := []
def t_Mo_across1_ct : ct_L := []
set_option maxRecDepth 100000 in
theorem c_Mo_across1 {l : Launch} {D : va_G} {kA : Nat → ClassId} : ct_ok l D kA GG y_Mo_across1 z_Mo_across1 e_Mo_across1 := chk_all_ok (FT := [(57, 13, 33), (60, 13, 34)]) (PT := []) (CT := t_Mo_across1_ct) (KT := []) (AN := n_Mo_across1_an) 0 200 (by decide +kernel) ⟨List.forall_mem_cons.mpr ⟨gf_Mo_57, List.forall_mem_cons.mpr ⟨gf_Mo_60, List.forall_mem_nil _⟩⟩, List.forall_mem_nil _, List.forall_mem_nil _, List.forall_mem_nil _⟩ (by decide +kernel)
abbrev b_Mo_at1 : ByteArray := prog_15_method_64_code
def y_Mo_at1 : MethodName := ⟨"DrawingHouseModel", "at", "(II)Z"⟩
abbrev z_Mo_at1 : List Cond := Cond.code y_Mo_at1 b_Mo_at1 3 (some .boolean) :: lw_g
def e_Mo_at1 : en_T := ([(2, 0, 0, [139]), (0, 0, 79, []), (0, -1, 25, [])], some (0, 0, 1, []), true, 1, 0, 0, [([(2, 0, 0, [139]), (0, 0, 79, []), (0, -1, 25, []), (0, 0, 0, [])], [], [3], [], [], []), ([(2, 0, 0, [139]), (0, 0, 79, []), (0, 0, 24, []), (0, 1, 1, [])], [], [3], [], [], [])], [], [])
def n_Mo_at1_an : List an_T := []
def t_Mo_at1_ct : ct_L := []
set_option maxRecDepth 100000 in
theorem c_Mo_at1 {l : Launch} {D : va_G} {kA : Nat → ClassId} : ct_ok l D kA GG y_Mo_at1 z_Mo_at1 e_Mo_at1 := chk_all_ok (FT := [(57, 13, 33), (60, 13, 34), (63, 13, 35)]) (PT := []) (CT := t_Mo_at1_ct) (KT := []) (AN := n_Mo_at1_an) 0 200 (by decide +kernel) ⟨List.forall_mem_cons.mpr ⟨gf_Mo_57, List.forall_mem_cons.mpr ⟨gf_Mo_60, List.forall_mem_cons.mpr ⟨gf_Mo_63, List.forall_mem_nil _⟩⟩⟩, List.forall_mem_nil _, List.forall_mem_nil _, List.forall_mem_nil _⟩ (by decide +kernel)
abbrev b_Mo_bounded : ByteArray := prog_15_method_176_code
def y_Mo_bounded : MethodName := ⟨"DrawingHouseModel", "bounded", "(JJ)J"⟩
abbrev z_Mo_bounded : List Cond := Cond.code y_Mo_bounded b_Mo_bounded 4 (some .long) :: lw_g
def e_Mo_bounded : en_T := ([(1, -9223372036854775808, 9223372036854775807, []), (1, 0, 256, [])], some (1, -9223372036854775808, 9223372036854775807, []), true, 1, 0, 0, [([(1, -9223372036854775808, 9223372036854775807, []), (1, 0, 256, [])], [], [0], [], [], []), ([(1, -9223372036854775808, 9223372036854775807, []), (1, 0, 256, []), (1, -256, 0, [])], [], [2], [], [], []), ([(1, -9223372036854775808, 9223372036854775807, []), (1, 0, 256, [])], [], [1], [], [], [])], [], [])
def n_Mo_bounded_an : List an_T := []
def t_Mo_bounded_ct : ct_L := []
set_option maxRecDepth 100000 in
theorem c_Mo_bounded {l : Launch} {D : va_G} {kA : Nat → ClassId} : ct_ok l D kA GG y_Mo_bounded z_Mo_bounded e_Mo_bounded := chk_all_ok (FT := []) (PT := []) (CT := t_Mo_bounded_ct) (KT := []) (AN := n_Mo_bounded_an) 0 200 (by decide +kernel) ⟨List.forall_mem_nil _, List.forall_mem_nil _, List.forall_mem_nil _, List.forall_mem_nil _⟩ (by decide +kernel)
abbrev b_Mo_byteAt : ByteArray := prog_15_method_25_code
def y_Mo_byteAt : MethodName := ⟨"DrawingHouseModel", "byteAt", "(I)I"⟩
abbrev z_Mo_byteAt : List Cond := Cond.code y_Mo_byteAt b_Mo_byteAt 2 (some .int) :: lw_g
def e_Mo_byteAt : en_T := ([(2, 0, 0, [139]), (0, 0, 2147483647, [])], some (0, -1, 255, []), true, 1, 0, 0, [([(2, 0, 0, [139]), (0, 0, 2147483647, []), (0, -1, -1, [])], [], [2], [], [], []), ([(2, 0, 0, [139]), (0, 0, 1999, []), (0, 0, 255, [])], [], [2], [], [], [])], [], [])
def n_Mo_byteAt_an : List an_T := []
def t_Mo_byteAt_ct : ct_L := []
set_option maxRecDepth 100000 in
theorem c_Mo_byteAt {l : Launch} {D : va_G} {kA : Nat → ClassId} : ct_ok l D kA GG y_Mo_byteAt z_Mo_byteAt e_Mo_byteAt := chk_all_ok (FT := [(9, 13, 1), (419, 13, 10)]) (PT := []) (CT := t_Mo_byteAt_ct) (KT := []) (AN := n_Mo_byteAt_an) 0 200 (by decide +kernel) ⟨List.forall_mem_cons.mpr ⟨gf_Mo_9, List.forall_mem_cons.mpr ⟨gf_Mo_419, List.forall_mem_nil _⟩⟩, List.forall_mem_nil _, List.forall_mem_nil _, List.forall_mem_nil _⟩ (by decide +kernel)
abbrev b_Mo_changed : ByteArray := prog_15_method_42_code
def y_Mo_changed : MethodName := ⟨"DrawingHouseModel", "changed", "(I)V"⟩
abbrev z_Mo_changed : List Cond := Cond.code y_Mo_changed b_Mo_changed 3 none :: lw_g
def e_Mo_changed : en_T := ([(2, 0, 0, [139]), (0, 0, 3, [])], none, false, 1, 0, 0, [], [], [])
def n_Mo_changed_an : List an_T := [(9, [(0, (2, 0, 0, [139])), (1, (0, 0, 3, [])), (2, (0, 0, 216, []))], [], (0, 0), [(0, 0, 99991), (1, 2, 216), (0, 0, 100000)], [], [])]
def t_Mo_changed_ct : ct_L := []
set_option maxRecDepth 100000 in
theorem c_Mo_changed {l : Launch} {D : va_G} {kA : Nat → ClassId} : ct_ok l D kA GG y_Mo_changed z_Mo_changed e_Mo_changed := chk_all_ok (FT := [(120, 13, 61), (156, 13, 73)]) (PT := []) (CT := t_Mo_changed_ct) (KT := []) (AN := n_Mo_changed_an) 3 200 (by decide +kernel) ⟨List.forall_mem_cons.mpr ⟨gf_Mo_120, List.forall_mem_cons.mpr ⟨gf_Mo_156, List.forall_mem_nil _⟩⟩, List.forall_mem_nil _, List.forall_mem_nil _, List.forall_mem_nil _⟩ (by decide +kernel)
abbrev b_Mo_clear : ByteArray := prog_15_method_8_code
def y_Mo_clear : MethodName := ⟨"DrawingHouseModel", "clear", "(I)V"⟩
abbrev z_Mo_clear : List Cond := Cond.code y_Mo_clear b_Mo_clear 3 none :: lw_g
def e_Mo_clear : en_T := ([(2, 0, 0, [139]), (5, 0, 66297, [539])], none, false, 1, 0, 0, [], [], [])
def n_Mo_clear_an : List an_T := [(2, [(0, (2, 0, 0, [139])), (1, (5, 0, 66297, [539])), (2, (0, 0, 539, []))], [], (0, 0), [(0, 0, 99998), (1, 2, 539), (0, 0, 100000)], [], [])]
def t_Mo_clear_ct : ct_L := []
set_option maxRecDepth 100000 in
theorem c_Mo_clear {l : Launch} {D : va_G} {kA : Nat → ClassId} : ct_ok l D kA GG y_Mo_clear z_Mo_clear e_Mo_clear := chk_all_ok (FT := [(16, 13, 2)]) (PT := []) (CT := t_Mo_clear_ct) (KT := []) (AN := n_Mo_clear_an) 3 200 (by decide +kernel) ⟨List.forall_mem_cons.mpr ⟨gf_Mo_16, List.forall_mem_nil _⟩, List.forall_mem_nil _, List.forall_mem_nil _, List.forall_mem_nil _⟩ (by decide +kernel)
abbrev b_Mo_closer : ByteArray := prog_15_method_74_code
def y_Mo_closer : MethodName := ⟨"DrawingHouseModel", "closer", "(IIIIZ)Z"⟩
abbrev z_Mo_closer : List Cond := Cond.code y_Mo_closer b_Mo_closer 6 (some .boolean) :: lw_g
def e_Mo_closer : en_T := ([(2, 0, 0, [139]), (0, 0, 24, []), (0, 0, 24, []), (0, 0, 25, []), (0, 0, 24, []), (0, 0, 1, [])], some (0, 0, 1, []), false, 1, 0, 0, [], [], [])
def n_Mo_closer_an : List an_T := []
def t_Mo_closer_ct : ct_L := []
set_option maxRecDepth 100000 in
theorem c_Mo_closer {l : Launch} {D : va_G} {kA : Nat → ClassId} : ct_ok l D kA GG y_Mo_closer z_Mo_closer e_Mo_closer := chk_all_ok (FT := [(81, 13, 42), (93, 13, 48)]) (PT := []) (CT := t_Mo_closer_ct) (KT := []) (AN := n_Mo_closer_an) 0 652 (by decide +kernel) ⟨List.forall_mem_cons.mpr ⟨gf_Mo_81, List.forall_mem_cons.mpr ⟨gf_Mo_93, List.forall_mem_nil _⟩⟩, List.forall_mem_nil _, List.forall_mem_nil _, List.forall_mem_nil _⟩ (by decide +kernel)
abbrev b_Mo_degree : ByteArray := prog_15_method_58_code
def y_Mo_degree : MethodName := ⟨"DrawingHouseModel", "degree", "(II)I"⟩
abbrev z_Mo_degree : List Cond := Cond.code y_Mo_degree b_Mo_degree 5 (some .int) :: lw_g
def e_Mo_degree : en_T := ([(2, 0, 0, [139]), (5, 0, 66297, [539]), (0, 0, 23, [])], some (0, -2147483648, 2147483647, []), true, 1, 0, 0, [], [], [])
def n_Mo_degree_an : List an_T := [(5, [(0, (2, 0, 0, [139])), (1, (5, 0, 66297, [539])), (2, (0, 0, 23, [])), (3, (0, -2147483648, 2147483647, [])), (4, (0, 0, 48, []))], [], (0, 0), [(0, 0, 99995), (1, 4, 48), (0, 0, 100000)], [], [])]
def t_Mo_degree_ct : ct_L := []
set_option maxRecDepth 100000 in
theorem c_Mo_degree {l : Launch} {D : va_G} {kA : Nat → ClassId} : ct_ok l D kA GG y_Mo_degree z_Mo_degree e_Mo_degree := chk_all_ok (FT := [(16, 13, 2)]) (PT := []) (CT := t_Mo_degree_ct) (KT := []) (AN := n_Mo_degree_an) 3 208 (by decide +kernel) ⟨List.forall_mem_cons.mpr ⟨gf_Mo_16, List.forall_mem_nil _⟩, List.forall_mem_nil _, List.forall_mem_nil _, List.forall_mem_nil _⟩ (by decide +kernel)
abbrev b_Mo_dx : ByteArray := prog_15_method_190_code
def y_Mo_dx : MethodName := ⟨"DrawingHouseModel", "dx", "(I)I"⟩
abbrev z_Mo_dx : List Cond := Cond.code y_Mo_dx b_Mo_dx 1 (some .int) :: lw_g
def e_Mo_dx : en_T := ([(0, -1, 3, [])], some (0, -1, 1, []), true, 1, 0, 0, [([(0, -1, 3, []), (0, 0, 0, [])], [], [1], [], [], []), ([(0, 2, 2, []), (0, -1, -1, [])], [], [1], [], [], []), ([(0, 0, 0, []), (0, 1, 1, [])], [], [1], [], [], [])], [], [])
def n_Mo_dx_an : List an_T := []
def t_Mo_dx_ct : ct_L := []
set_option maxRecDepth 100000 in
theorem c_Mo_dx {l : Launch} {D : va_G} {kA : Nat → ClassId} : ct_ok l D kA GG y_Mo_dx z_Mo_dx e_Mo_dx := chk_all_ok (FT := []) (PT := []) (CT := t_Mo_dx_ct) (KT := []) (AN := n_Mo_dx_an) 0 200 (by decide +kernel) ⟨List.forall_mem_nil _, List.forall_mem_nil _, List.forall_mem_nil _, List.forall_mem_nil _⟩ (by decide +kernel)
abbrev b_Mo_dy : ByteArray := prog_15_method_191_code
def y_Mo_dy : MethodName := ⟨"DrawingHouseModel", "dy", "(I)I"⟩
abbrev z_Mo_dy : List Cond := Cond.code y_Mo_dy b_Mo_dy 1 (some .int) :: lw_g
def e_Mo_dy : en_T := ([(0, -1, 3, [])], some (0, -1, 1, []), true, 1, 0, 0, [([(0, -1, 2, []), (0, 0, 0, [])], [], [1], [], [], []), ([(0, 3, 3, []), (0, -1, -1, [])], [], [1], [], [], []), ([(0, 1, 1, []), (0, 1, 1, [])], [], [1], [], [], [])], [], [])
def n_Mo_dy_an : List an_T := []
def t_Mo_dy_ct : ct_L := []
set_option maxRecDepth 100000 in
theorem c_Mo_dy {l : Launch} {D : va_G} {kA : Nat → ClassId} : ct_ok l D kA GG y_Mo_dy z_Mo_dy e_Mo_dy := chk_all_ok (FT := []) (PT := []) (CT := t_Mo_dy_ct) (KT := []) (AN := n_Mo_dy_an) 0 200 (by decide +kernel) ⟨List.forall_mem_nil _, List.forall_mem_nil _, List.forall_mem_nil _, List.forall_mem_nil _⟩ (by decide +kernel)
abbrev b_Mo_edgeWay : ByteArray := prog_15_method_57_code
def y_Mo_edgeWay : MethodName := ⟨"DrawingHouseModel", "edgeWay", "(III)I"⟩
abbrev z_Mo_edgeWay : List Cond := Cond.code y_Mo_edgeWay b_Mo_edgeWay 8 (some .int) :: lw_g
def e_Mo_edgeWay : en_T := ([(2, 0, 0, [139]), (5, 0, 66297, [539]), (0, -1, 23, []), (0, 0, 23, [])], some (0, 0, 3, []), true, 1, 0, 0, [], [], [])
def n_Mo_edgeWay_an : List an_T := [(3, [(0, (2, 0, 0, [139])), (1, (5, 0, 66297, [539])), (2, (0, -1, 23, [])), (3, (0, 0, 23, [])), (4, (0, 0, 48, []))], [], (0, 0), [(0, 0, 99997), (1, 4, 48), (0, 0, 100000)], [], [])]
def t_Mo_edgeWay_ct : ct_L := []
set_option maxRecDepth 100000 in
theorem c_Mo_edgeWay {l : Launch} {D : va_G} {kA : Nat → ClassId} : ct_ok l D kA GG y_Mo_edgeWay z_Mo_edgeWay e_Mo_edgeWay := chk_all_ok (FT := [(16, 13, 2)]) (PT := []) (CT := t_Mo_edgeWay_ct) (KT := []) (AN := n_Mo_edgeWay_an) 3 344 (by decide +kernel) ⟨List.forall_mem_cons.mpr ⟨gf_Mo_16, List.forall_mem_nil _⟩, List.forall_mem_nil _, List.forall_mem_nil _, List.forall_mem_nil _⟩ (by decide +kernel)
abbrev b_Mo_edges : ByteArray := prog_15_method_12_code
def y_Mo_edges : MethodName := ⟨"DrawingHouseModel", "edges", "()I"⟩
abbrev z_Mo_edges : List Cond := Cond.code y_Mo_edges b_Mo_edges 1 (some .int) :: lw_g
def e_Mo_edges : en_T := ([(2, 0, 0, [139])], some (0, 0, 48, []), true, 1, 0, 0, [([(2, 0, 0, [139]), (0, 0, 48, [])], [], [1], [], [], [])], [], [])
def n_Mo_edges_an : List an_T := []
def t_Mo_edges_ct : ct_L := []
set_option maxRecDepth 100000 in
theorem c_Mo_edges {l : Launch} {D : va_G} {kA : Nat → ClassId} : ct_ok l D kA GG y_Mo_edges z_Mo_edges e_Mo_edges := chk_all_ok (FT := [(16, 13, 2), (391, 13, 5)]) (PT := []) (CT := t_Mo_edges_ct) (KT := []) (AN := n_Mo_edges_an) 0 200 (by decide +kernel) ⟨List.forall_mem_cons.mpr ⟨gf_Mo_16, List.forall_mem_cons.mpr ⟨gf_Mo_391, List.forall_mem_nil _⟩⟩, List.forall_mem_nil _, List.forall_mem_nil _, List.forall_mem_nil _⟩ (by decide +kernel)
abbrev b_Mo_fitsFace : ByteArray := prog_15_method_78_code
def y_Mo_fitsFace : MethodName := ⟨"DrawingHouseModel", "fitsFace", "(II)Z"⟩
abbrev z_Mo_fitsFace : List Cond := Cond.code y_Mo_fitsFace b_Mo_fitsFace 3 (some .boolean) :: lw_g
def e_Mo_fitsFace : en_T := ([(2, 0, 0, [139]), (0, 0, 79, []), (0, 0, 119, [])], some (0, 0, 1, []), true, 1, 0, 0, [([(2, 0, 0, [139]), (0, 0, 79, []), (0, 0, 119, []), (0, 0, 0, [])], [], [3], [], [], []), ([(2, 0, 0, [139]), (0, 0, 79, []), (0, 0, 119, []), (0, 1, 1, [])], [], [3], [], [], [])], [], [])
def n_Mo_fitsFace_an : List an_T := []
def t_Mo_fitsFace_ct : ct_L := []
set_option maxRecDepth 100000 in
theorem c_Mo_fitsFace {l : Launch} {D : va_G} {kA : Nat → ClassId} : ct_ok l D kA GG y_Mo_fitsFace z_Mo_fitsFace e_Mo_fitsFace := chk_all_ok (FT := [(96, 13, 50), (99, 13, 51)]) (PT := []) (CT := t_Mo_fitsFace_ct) (KT := []) (AN := n_Mo_fitsFace_an) 0 200 (by decide +kernel) ⟨List.forall_mem_cons.mpr ⟨gf_Mo_96, List.forall_mem_cons.mpr ⟨gf_Mo_99, List.forall_mem_nil _⟩⟩, List.forall_mem_nil _, List.forall_mem_nil _, List.forall_mem_nil _⟩ (by decide +kernel)
abbrev b_Mo_fromOf : ByteArray := prog_15_method_87_code
def y_Mo_fromOf : MethodName := ⟨"DrawingHouseModel", "fromOf", "(I)I"⟩
abbrev z_Mo_fromOf : List Cond := Cond.code y_Mo_fromOf b_Mo_fromOf 2 (some .int) :: lw_g
def e_Mo_fromOf : en_T := ([(2, 0, 0, [139]), (0, 0, 159, [])], some (0, 0, 24, []), true, 1, 0, 0, [([(2, 0, 0, [139]), (0, 0, 159, []), (0, 0, 24, [])], [], [2], [], [], [])], [], [])
def n_Mo_fromOf_an : List an_T := []
def t_Mo_fromOf_ct : ct_L := []
set_option maxRecDepth 100000 in
theorem c_Mo_fromOf {l : Launch} {D : va_G} {kA : Nat → ClassId} : ct_ok l D kA GG y_Mo_fromOf z_Mo_fromOf e_Mo_fromOf := chk_all_ok (FT := [(57, 13, 33), (60, 13, 34)]) (PT := []) (CT := t_Mo_fromOf_ct) (KT := []) (AN := n_Mo_fromOf_an) 0 200 (by decide +kernel) ⟨List.forall_mem_cons.mpr ⟨gf_Mo_57, List.forall_mem_cons.mpr ⟨gf_Mo_60, List.forall_mem_nil _⟩⟩, List.forall_mem_nil _, List.forall_mem_nil _, List.forall_mem_nil _⟩ (by decide +kernel)
abbrev b_Mo_groupOf : ByteArray := prog_15_method_19_code
def y_Mo_groupOf : MethodName := ⟨"DrawingHouseModel", "groupOf", "(I)I"⟩
abbrev z_Mo_groupOf : List Cond := Cond.code y_Mo_groupOf b_Mo_groupOf 2 (some .int) :: lw_g
def e_Mo_groupOf : en_T := ([(2, 0, 0, [139]), (0, 0, 23, [])], some (0, 0, 7, []), true, 1, 0, 0, [([(2, 0, 0, [139]), (0, 0, 23, []), (0, 0, 7, [])], [], [2], [], [], [])], [], [])
def n_Mo_groupOf_an : List an_T := []
def t_Mo_groupOf_ct : ct_L := []
set_option maxRecDepth 100000 in
theorem c_Mo_groupOf {l : Launch} {D : va_G} {kA : Nat → ClassId} : ct_ok l D kA GG y_Mo_groupOf z_Mo_groupOf e_Mo_groupOf := chk_all_ok (FT := [(16, 13, 2), (391, 13, 5)]) (PT := []) (CT := t_Mo_groupOf_ct) (KT := []) (AN := n_Mo_groupOf_an) 0 200 (by decide +kernel) ⟨List.forall_mem_cons.mpr ⟨gf_Mo_16, List.forall_mem_cons.mpr ⟨gf_Mo_391, List.forall_mem_nil _⟩⟩, List.forall_mem_nil _, List.forall_mem_nil _, List.forall_mem_nil _⟩ (by decide +kernel)
abbrev b_Mo_groups : ByteArray := prog_15_method_13_code
def y_Mo_groups : MethodName := ⟨"DrawingHouseModel", "groups", "()I"⟩
abbrev z_Mo_groups : List Cond := Cond.code y_Mo_groups b_Mo_groups 1 (some .int) :: lw_g
def e_Mo_groups : en_T := ([(2, 0, 0, [139])], some (0, 0, 8, []), true, 1, 0, 0, [([(2, 0, 0, [139]), (0, 0, 8, [])], [], [1], [], [], [])], [], [])
def n_Mo_groups_an : List an_T := []
def t_Mo_groups_ct : ct_L := []
set_option maxRecDepth 100000 in
theorem c_Mo_groups {l : Launch} {D : va_G} {kA : Nat → ClassId} : ct_ok l D kA GG y_Mo_groups z_Mo_groups e_Mo_groups := chk_all_ok (FT := [(16, 13, 2), (391, 13, 5)]) (PT := []) (CT := t_Mo_groups_ct) (KT := []) (AN := n_Mo_groups_an) 0 200 (by decide +kernel) ⟨List.forall_mem_cons.mpr ⟨gf_Mo_16, List.forall_mem_cons.mpr ⟨gf_Mo_391, List.forall_mem_nil _⟩⟩, List.forall_mem_nil _, List.forall_mem_nil _, List.forall_mem_nil _⟩ (by decide +kernel)
abbrev b_Mo_head : ByteArray := prog_15_method_15_code
def y_Mo_head : MethodName := ⟨"DrawingHouseModel", "head", "(I)I"⟩
abbrev z_Mo_head : List Cond := Cond.code y_Mo_head b_Mo_head 2 (some .int) :: lw_g
def e_Mo_head : en_T := ([(2, 0, 0, [139]), (0, 0, 47, [])], some (0, 0, 23, []), true, 1, 0, 0, [([(2, 0, 0, [139]), (0, 0, 47, []), (0, 0, 23, [])], [], [2], [], [], [])], [], [])
def n_Mo_head_an : List an_T := []
def t_Mo_head_ct : ct_L := []
set_option maxRecDepth 100000 in
theorem c_Mo_head {l : Launch} {D : va_G} {kA : Nat → ClassId} : ct_ok l D kA GG y_Mo_head z_Mo_head e_Mo_head := chk_all_ok (FT := [(16, 13, 2), (391, 13, 5)]) (PT := []) (CT := t_Mo_head_ct) (KT := []) (AN := n_Mo_head_an) 0 200 (by decide +kernel) ⟨List.forall_mem_cons.mpr ⟨gf_Mo_16, List.forall_mem_cons.mpr ⟨gf_Mo_391, List.forall_mem_nil _⟩⟩, List.forall_mem_nil _, List.forall_mem_nil _, List.forall_mem_nil _⟩ (by decide +kernel)
abbrev b_Mo_in : ByteArray := prog_15_method_3_code
def y_Mo_in : MethodName := ⟨"DrawingHouseModel", "in", "(III)Z"⟩
abbrev z_Mo_in : List Cond := Cond.code y_Mo_in b_Mo_in 3 (some .boolean) :: lw_g
def e_Mo_in : en_T := ([(0, -2147483648, 2147483647, []), (0, -2147483648, 2147483647, []), (0, -2147483648, 2147483647, [])], some (0, 0, 1, []), true, 1, 0, 0, [([(0, -2147483648, 2147483646, []), (0, -2147483647, 2147483647, []), (0, -2147483648, 2147483647, []), (0, 0, 0, [])], [], [3], [], [(0, 1, -1000000000000, -1)], []), ([(0, -2147483647, 2147483647, []), (0, -2147483648, 2147483647, []), (0, -2147483648, 2147483646, []), (0, 0, 0, [])], [], [3], [], [(0, 2, 1, 1000000000000), (0, 1, 0, 1000000000000)], []), ([(0, -2147483648, 2147483647, []), (0, -2147483648, 2147483647, []), (0, -2147483648, 2147483647, []), (0, 1, 1, [])], [], [3], [], [(0, 2, -1000000000000, 0), (0, 1, 0, 1000000000000)], [])], [], [])
def n_Mo_in_an : List an_T := []
def t_Mo_in_ct : ct_L := []
set_option maxRecDepth 100000 in
theorem c_Mo_in {l : Launch} {D : va_G} {kA : Nat → ClassId} : ct_ok l D kA GG y_Mo_in z_Mo_in e_Mo_in := chk_all_ok (FT := []) (PT := []) (CT := t_Mo_in_ct) (KT := []) (AN := n_Mo_in_an) 0 200 (by decide +kernel) ⟨List.forall_mem_nil _, List.forall_mem_nil _, List.forall_mem_nil _, List.forall_mem_nil _⟩ (by decide +kernel)
abbrev b_Mo_isBridge : ByteArray := prog_15_method_97_code
def y_Mo_isBridge : MethodName := ⟨"DrawingHouseModel", "isBridge", "(I)Z"⟩
abbrev z_Mo_isBridge : List Cond := Cond.code y_Mo_isBridge b_Mo_isBridge 4 (some .boolean) :: lw_g
def e_Mo_isBridge : en_T := ([(2, 0, 0, [139]), (0, 0, 47, [])], some (0, 0, 1, []), true, 1, 0, 0, [], [], [])
def n_Mo_isBridge_an : List an_T := [(4, [(0, (2, 0, 0, [139])), (1, (0, 0, 47, [])), (2, (0, -2147483648, 2147483647, [])), (3, (0, 0, 80, []))], [], (0, 0), [(0, 0, 99996), (1, 3, 80), (0, 0, 100000)], [], [])]
def t_Mo_isBridge_ct : ct_L := []
set_option maxRecDepth 100000 in
theorem c_Mo_isBridge {l : Launch} {D : va_G} {kA : Nat → ClassId} : ct_ok l D kA GG y_Mo_isBridge z_Mo_isBridge e_Mo_isBridge := chk_all_ok (FT := [(32, 13, 17), (597, 13, 32)]) (PT := []) (CT := t_Mo_isBridge_ct) (KT := []) (AN := n_Mo_isBridge_an) 3 200 (by decide +kernel) ⟨List.forall_mem_cons.mpr ⟨gf_Mo_32, List.forall_mem_cons.mpr ⟨gf_Mo_597, List.forall_mem_nil _⟩⟩, List.forall_mem_nil _, List.forall_mem_nil _, List.forall_mem_nil _⟩ (by decide +kernel)
abbrev b_Mo_isEnd : ByteArray := prog_15_method_77_code
def y_Mo_isEnd : MethodName := ⟨"DrawingHouseModel", "isEnd", "(II)Z"⟩
abbrev z_Mo_isEnd : List Cond := Cond.code y_Mo_isEnd b_Mo_isEnd 3 (some .boolean) :: lw_g
def e_Mo_isEnd : en_T := ([(2, 0, 0, [139]), (0, 0, 79, []), (0, 0, 25, [])], some (0, 0, 1, []), true, 1, 0, 0, [([(2, 0, 0, [139]), (0, 0, 79, []), (0, 0, 25, []), (0, 0, 0, [])], [], [3], [], [], []), ([(2, 0, 0, [139]), (0, 0, 79, []), (0, 0, 25, []), (0, 1, 1, [])], [], [3], [], [], [])], [], [])
def n_Mo_isEnd_an : List an_T := []
def t_Mo_isEnd_ct : ct_L := []
set_option maxRecDepth 100000 in
theorem c_Mo_isEnd {l : Launch} {D : va_G} {kA : Nat → ClassId} : ct_ok l D kA GG y_Mo_isEnd z_Mo_isEnd e_Mo_isEnd := chk_all_ok (FT := [(96, 13, 50)]) (PT := []) (CT := t_Mo_isEnd_ct) (KT := []) (AN := n_Mo_isEnd_an) 0 200 (by decide +kernel) ⟨List.forall_mem_cons.mpr ⟨gf_Mo_96, List.forall_mem_nil _⟩, List.forall_mem_nil _, List.forall_mem_nil _, List.forall_mem_nil _⟩ (by decide +kernel)
abbrev b_Mo_isMember : ByteArray := prog_15_method_116_code
def y_Mo_isMember : MethodName := ⟨"DrawingHouseModel", "isMember", "(I)Z"⟩
abbrev z_Mo_isMember : List Cond := Cond.code y_Mo_isMember b_Mo_isMember 3 (some .boolean) :: lw_g
def e_Mo_isMember : en_T := ([(2, 0, 0, [139]), (0, 0, 23, [])], some (0, 0, 1, []), true, 1, 0, 0, [], [], [])
def n_Mo_isMember_an : List an_T := [(2, [(0, (2, 0, 0, [139])), (1, (0, 0, 23, [])), (2, (0, 0, 26, []))], [], (0, 0), [(0, 0, 99998), (1, 2, 26), (0, 0, 100000)], [], [])]
def t_Mo_isMember_ct : ct_L := []
set_option maxRecDepth 100000 in
theorem c_Mo_isMember {l : Launch} {D : va_G} {kA : Nat → ClassId} : ct_ok l D kA GG y_Mo_isMember z_Mo_isMember e_Mo_isMember := chk_all_ok (FT := [(219, 13, 98), (795, 13, 99)]) (PT := []) (CT := t_Mo_isMember_ct) (KT := []) (AN := n_Mo_isMember_an) 3 200 (by decide +kernel) ⟨List.forall_mem_cons.mpr ⟨gf_Mo_219, List.forall_mem_cons.mpr ⟨gf_Mo_795, List.forall_mem_nil _⟩⟩, List.forall_mem_nil _, List.forall_mem_nil _, List.forall_mem_nil _⟩ (by decide +kernel)
abbrev b_Mo_isSmall : ByteArray := prog_15_method_127_code
def y_Mo_isSmall : MethodName := ⟨"DrawingHouseModel", "isSmall", "()Z"⟩
abbrev z_Mo_isSmall : List Cond := Cond.code y_Mo_isSmall b_Mo_isSmall 2 (some .boolean) :: lw_g
def e_Mo_isSmall : en_T := ([(2, 0, 0, [139])], some (0, 0, 1, []), true, 1, 0, 0, [], [], [])
def n_Mo_isSmall_an : List an_T := [(2, [(0, (2, 0, 0, [139])), (1, (0, 0, 76, []))], [], (0, 0), [(0, 0, 99998), (1, 1, 76), (0, 0, 100000)], [], [])]
def t_Mo_isSmall_ct : ct_L := []
set_option maxRecDepth 100000 in
theorem c_Mo_isSmall {l : Launch} {D : va_G} {kA : Nat → ClassId} : ct_ok l D kA GG y_Mo_isSmall z_Mo_isSmall e_Mo_isSmall := chk_all_ok (FT := [(231, 13, 105), (852, 13, 101)]) (PT := []) (CT := t_Mo_isSmall_ct) (KT := []) (AN := n_Mo_isSmall_an) 3 200 (by decide +kernel) ⟨List.forall_mem_cons.mpr ⟨gf_Mo_231, List.forall_mem_cons.mpr ⟨gf_Mo_852, List.forall_mem_nil _⟩⟩, List.forall_mem_nil _, List.forall_mem_nil _, List.forall_mem_nil _⟩ (by decide +kernel)
abbrev b_Mo_longOf : ByteArray := prog_15_method_20_code
def y_Mo_longOf : MethodName := ⟨"DrawingHouseModel", "longOf", "(I)I"⟩
abbrev z_Mo_longOf : List Cond := Cond.code y_Mo_longOf b_Mo_longOf 2 (some .int) :: lw_g
def e_Mo_longOf : en_T := ([(2, 0, 0, [139]), (0, 0, 23, [])], some (0, 0, 8, []), true, 1, 0, 0, [([(2, 0, 0, [139]), (0, 0, 23, []), (0, 0, 8, [])], [], [2], [], [], [])], [], [])
def n_Mo_longOf_an : List an_T := []
def t_Mo_longOf_ct : ct_L := []
set_option maxRecDepth 100000 in
theorem c_Mo_longOf {l : Launch} {D : va_G} {kA : Nat → ClassId} : ct_ok l D kA GG y_Mo_longOf z_Mo_longOf e_Mo_longOf := chk_all_ok (FT := [(16, 13, 2), (391, 13, 5)]) (PT := []) (CT := t_Mo_longOf_ct) (KT := []) (AN := n_Mo_longOf_an) 0 200 (by decide +kernel) ⟨List.forall_mem_cons.mpr ⟨gf_Mo_16, List.forall_mem_cons.mpr ⟨gf_Mo_391, List.forall_mem_nil _⟩⟩, List.forall_mem_nil _, List.forall_mem_nil _, List.forall_mem_nil _⟩ (by decide +kernel)
abbrev b_Mo_low : ByteArray := prog_15_method_152_code
def y_Mo_low : MethodName := ⟨"DrawingHouseModel", "low", "(I)I"⟩
abbrev z_Mo_low : List Cond := Cond.code y_Mo_low b_Mo_low 2 (some .int) :: lw_g
def e_Mo_low : en_T := ([(2, 0, 0, [139]), (0, 0, 79, [])], some (0, 0, 24, []), true, 1, 0, 0, [([(2, 0, 0, [139]), (0, 0, 79, []), (0, 0, 24, [])], [], [2], [], [], [])], [], [])
def n_Mo_low_an : List an_T := []
def t_Mo_low_ct : ct_L := []
set_option maxRecDepth 100000 in
theorem c_Mo_low {l : Launch} {D : va_G} {kA : Nat → ClassId} : ct_ok l D kA GG y_Mo_low z_Mo_low e_Mo_low := chk_all_ok (FT := [(57, 13, 33), (60, 13, 34), (284, 13, 124)]) (PT := []) (CT := t_Mo_low_ct) (KT := []) (AN := n_Mo_low_an) 0 200 (by decide +kernel) ⟨List.forall_mem_cons.mpr ⟨gf_Mo_57, List.forall_mem_cons.mpr ⟨gf_Mo_60, List.forall_mem_cons.mpr ⟨gf_Mo_284, List.forall_mem_nil _⟩⟩⟩, List.forall_mem_nil _, List.forall_mem_nil _, List.forall_mem_nil _⟩ (by decide +kernel)
abbrev b_Mo_max : ByteArray := prog_15_method_4_code
def y_Mo_max : MethodName := ⟨"DrawingHouseModel", "max", "(II)I"⟩
abbrev z_Mo_max : List Cond := Cond.code y_Mo_max b_Mo_max 2 (some .int) :: lw_g
def e_Mo_max : en_T := ([(0, -2147483648, 2147483647, []), (0, -2147483648, 2147483647, [])], some (0, -2147483648, 2147483647, []), true, 1, 0, 0, [([(0, -2147483648, 2147483647, []), (0, -2147483648, 2147483647, [])], [], [1], [], [(0, 1, -1000000000000, 0)], []), ([(0, -2147483647, 2147483647, []), (0, -2147483648, 2147483646, [])], [], [0], [], [(0, 1, 1, 1000000000000)], [])], [], [])
def n_Mo_max_an : List an_T := []
def t_Mo_max_ct : ct_L := []
set_option maxRecDepth 100000 in
theorem c_Mo_max {l : Launch} {D : va_G} {kA : Nat → ClassId} : ct_ok l D kA GG y_Mo_max z_Mo_max e_Mo_max := chk_all_ok (FT := []) (PT := []) (CT := t_Mo_max_ct) (KT := []) (AN := n_Mo_max_an) 0 200 (by decide +kernel) ⟨List.forall_mem_nil _, List.forall_mem_nil _, List.forall_mem_nil _, List.forall_mem_nil _⟩ (by decide +kernel)
abbrev b_Mo_mayGo : ByteArray := prog_15_method_72_code
def y_Mo_mayGo : MethodName := ⟨"DrawingHouseModel", "mayGo", "(I)Z"⟩
abbrev z_Mo_mayGo : List Cond := Cond.code y_Mo_mayGo b_Mo_mayGo 2 (some .boolean) :: lw_g
def e_Mo_mayGo : en_T := ([(2, 0, 0, [139]), (0, 0, 79, [])], some (0, 0, 1, []), true, 1, 0, 0, [([(2, 0, 0, [139]), (0, 0, 79, []), (0, 0, 0, [])], [], [2], [], [], []), ([(2, 0, 0, [139]), (0, 0, 79, []), (0, 1, 1, [])], [], [2], [], [], [])], [], [])
def n_Mo_mayGo_an : List an_T := []
def t_Mo_mayGo_ct : ct_L := []
set_option maxRecDepth 100000 in
theorem c_Mo_mayGo {l : Launch} {D : va_G} {kA : Nat → ClassId} : ct_ok l D kA GG y_Mo_mayGo z_Mo_mayGo e_Mo_mayGo := chk_all_ok (FT := [(84, 13, 43), (87, 13, 44), (649, 13, 49)]) (PT := []) (CT := t_Mo_mayGo_ct) (KT := []) (AN := n_Mo_mayGo_an) 0 200 (by decide +kernel) ⟨List.forall_mem_cons.mpr ⟨gf_Mo_84, List.forall_mem_cons.mpr ⟨gf_Mo_87, List.forall_mem_cons.mpr ⟨gf_Mo_649, List.forall_mem_nil _⟩⟩⟩, List.forall_mem_nil _, List.forall_mem_nil _, List.forall_mem_nil _⟩ (by decide +kernel)
abbrev b_Mo_min : ByteArray := prog_15_method_5_code
def y_Mo_min : MethodName := ⟨"DrawingHouseModel", "min", "(II)I"⟩
abbrev z_Mo_min : List Cond := Cond.code y_Mo_min b_Mo_min 2 (some .int) :: lw_g
def e_Mo_min : en_T := ([(0, -2147483648, 2147483647, []), (0, -2147483648, 2147483647, [])], some (0, -2147483648, 2147483647, []), true, 1, 0, 0, [([(0, -2147483648, 2147483647, []), (0, -2147483648, 2147483647, [])], [], [1], [], [(0, 1, 0, 1000000000000)], []), ([(0, -2147483648, 2147483646, []), (0, -2147483647, 2147483647, [])], [], [0], [], [(0, 1, -1000000000000, -1)], [])], [], [])
def n_Mo_min_an : List an_T := []
def t_Mo_min_ct : ct_L := []
set_option maxRecDepth 100000 in
theorem c_Mo_min {l : Launch} {D : va_G} {kA : Nat → ClassId} : ct_ok l D kA GG y_Mo_min z_Mo_min e_Mo_min := chk_all_ok (FT := []) (PT := []) (CT := t_Mo_min_ct) (KT := []) (AN := n_Mo_min_an) 0 200 (by decide +kernel) ⟨List.forall_mem_nil _, List.forall_mem_nil _, List.forall_mem_nil _, List.forall_mem_nil _⟩ (by decide +kernel)
abbrev b_Mo_missing : ByteArray := prog_15_method_69_code
def y_Mo_missing : MethodName := ⟨"DrawingHouseModel", "missing", "()Z"⟩
abbrev z_Mo_missing : List Cond := Cond.code y_Mo_missing b_Mo_missing 2 (some .boolean) :: lw_g
def e_Mo_missing : en_T := ([(2, 0, 0, [139])], some (0, 0, 1, []), true, 1, 0, 0, [], [], [])
def n_Mo_missing_an : List an_T := [(2, [(0, (2, 0, 0, [139])), (1, (0, 0, 80, []))], [], (0, 0), [(0, 0, 99998), (1, 1, 80), (0, 0, 100000)], [], [])]
def t_Mo_missing_ct : ct_L := []
set_option maxRecDepth 100000 in
theorem c_Mo_missing {l : Launch} {D : va_G} {kA : Nat → ClassId} : ct_ok l D kA GG y_Mo_missing z_Mo_missing e_Mo_missing := chk_all_ok (FT := [(84, 13, 43), (597, 13, 32)]) (PT := []) (CT := t_Mo_missing_ct) (KT := []) (AN := n_Mo_missing_an) 3 200 (by decide +kernel) ⟨List.forall_mem_cons.mpr ⟨gf_Mo_84, List.forall_mem_cons.mpr ⟨gf_Mo_597, List.forall_mem_nil _⟩⟩, List.forall_mem_nil _, List.forall_mem_nil _, List.forall_mem_nil _⟩ (by decide +kernel)
abbrev b_Mo_move : ByteArray := prog_15_method_150_code
def y_Mo_move : MethodName := ⟨"DrawingHouseModel", "move", "(II)V"⟩
abbrev z_Mo_move : List Cond := Cond.code y_Mo_move b_Mo_move 4 none :: lw_g
def e_Mo_move : en_T := ([(2, 0, 0, [139]), (0, 0, 33554431, []), (0, 1, 2, [])], none, false, 1, 0, 0, [], [], [])
def n_Mo_move_an : List an_T := [(2, [(0, (2, 0, 0, [139])), (1, (0, 0, 33554431, [])), (2, (0, 1, 2, [])), (3, (0, 0, 25, []))], [], (0, 0), [(0, 0, 99998), (1, 3, 25), (0, 0, 100000)], [], [])]
def t_Mo_move_ct : ct_L := []
set_option maxRecDepth 100000 in
theorem c_Mo_move {l : Launch} {D : va_G} {kA : Nat → ClassId} : ct_ok l D kA GG y_Mo_move z_Mo_move e_Mo_move := chk_all_ok (FT := [(159, 13, 74), (594, 13, 31)]) (PT := []) (CT := t_Mo_move_ct) (KT := []) (AN := n_Mo_move_an) 3 200 (by decide +kernel) ⟨List.forall_mem_cons.mpr ⟨gf_Mo_159, List.forall_mem_cons.mpr ⟨gf_Mo_594, List.forall_mem_nil _⟩⟩, List.forall_mem_nil _, List.forall_mem_nil _, List.forall_mem_nil _⟩ (by decide +kernel)
abbrev b_Mo_nodes : ByteArray := prog_15_method_11_code
def y_Mo_nodes : MethodName := ⟨"DrawingHouseModel", "nodes", "()I"⟩
abbrev z_Mo_nodes : List Cond := Cond.code y_Mo_nodes b_Mo_nodes 1 (some .int) :: lw_g
def e_Mo_nodes : en_T := ([(2, 0, 0, [139])], some (0, 0, 24, []), true, 1, 0, 0, [([(2, 0, 0, [139]), (0, 0, 24, [])], [], [1], [], [], [])], [], [])
def n_Mo_nodes_an : List an_T := []
def t_Mo_nodes_ct : ct_L := []
set_option maxRecDepth 100000 in
theorem c_Mo_nodes {l : Launch} {D : va_G} {kA : Nat → ClassId} : ct_ok l D kA GG y_Mo_nodes z_Mo_nodes e_Mo_nodes := chk_all_ok (FT := [(16, 13, 2), (391, 13, 5)]) (PT := []) (CT := t_Mo_nodes_ct) (KT := []) (AN := n_Mo_nodes_an) 0 200 (by decide +kernel) ⟨List.forall_mem_cons.mpr ⟨gf_Mo_16, List.forall_mem_cons.mpr ⟨gf_Mo_391, List.forall_mem_nil _⟩⟩, List.forall_mem_nil _, List.forall_mem_nil _, List.forall_mem_nil _⟩ (by decide +kernel)
abbrev b_Mo_one : ByteArray := prog_15_method_17_code
def y_Mo_one : MethodName := ⟨"DrawingHouseModel", "one", "(I)I"⟩
abbrev z_Mo_one : List Cond := Cond.code y_Mo_one b_Mo_one 2 (some .int) :: lw_g
def e_Mo_one : en_T := ([(2, 0, 0, [139]), (0, 0, 47, [])], some (0, 0, 1, []), true, 1, 0, 0, [([(2, 0, 0, [139]), (0, 0, 47, []), (0, 0, 1, [])], [], [2], [], [], [])], [], [])
def n_Mo_one_an : List an_T := []
def t_Mo_one_ct : ct_L := []
set_option maxRecDepth 100000 in
theorem c_Mo_one {l : Launch} {D : va_G} {kA : Nat → ClassId} : ct_ok l D kA GG y_Mo_one z_Mo_one e_Mo_one := chk_all_ok (FT := [(16, 13, 2), (391, 13, 5)]) (PT := []) (CT := t_Mo_one_ct) (KT := []) (AN := n_Mo_one_an) 0 200 (by decide +kernel) ⟨List.forall_mem_cons.mpr ⟨gf_Mo_16, List.forall_mem_cons.mpr ⟨gf_Mo_391, List.forall_mem_nil _⟩⟩, List.forall_mem_nil _, List.forall_mem_nil _, List.forall_mem_nil _⟩ (by decide +kernel)
abbrev b_Mo_placeIn : ByteArray := prog_15_method_118_code
def y_Mo_placeIn : MethodName := ⟨"DrawingHouseModel", "placeIn", "(I)I"⟩
abbrev z_Mo_placeIn : List Cond := Cond.code y_Mo_placeIn b_Mo_placeIn 3 (some .int) :: lw_g
def e_Mo_placeIn : en_T := ([(2, 0, 0, [139]), (0, 0, 23, [])], some (0, 0, 26, []), true, 1, 0, 0, [], [], [])
def n_Mo_placeIn_an : List an_T := [(2, [(0, (2, 0, 0, [139])), (1, (0, 0, 23, [])), (2, (0, 0, 26, []))], [], (0, 0), [(0, 0, 99998), (1, 2, 26), (0, 0, 100000)], [], [])]
def t_Mo_placeIn_ct : ct_L := []
set_option maxRecDepth 100000 in
theorem c_Mo_placeIn {l : Launch} {D : va_G} {kA : Nat → ClassId} : ct_ok l D kA GG y_Mo_placeIn z_Mo_placeIn e_Mo_placeIn := chk_all_ok (FT := [(216, 13, 97), (795, 13, 99)]) (PT := []) (CT := t_Mo_placeIn_ct) (KT := []) (AN := n_Mo_placeIn_an) 3 200 (by decide +kernel) ⟨List.forall_mem_cons.mpr ⟨gf_Mo_216, List.forall_mem_cons.mpr ⟨gf_Mo_795, List.forall_mem_nil _⟩⟩, List.forall_mem_nil _, List.forall_mem_nil _, List.forall_mem_nil _⟩ (by decide +kernel)
abbrev b_Mo_pointsOf : ByteArray := prog_15_method_183_code
def y_Mo_pointsOf : MethodName := ⟨"DrawingHouseModel", "pointsOf", "(I)I"⟩
abbrev z_Mo_pointsOf : List Cond := Cond.code y_Mo_pointsOf b_Mo_pointsOf 2 (some .int) :: lw_g
def e_Mo_pointsOf : en_T := ([(2, 0, 0, [139]), (0, 0, 47, [])], some (0, 2, 26, []), true, 1, 0, 0, [([(2, 0, 0, [139]), (0, 0, 47, []), (0, 2, 26, [])], [], [2], [], [], [])], [], [])
def n_Mo_pointsOf_an : List an_T := []
def t_Mo_pointsOf_ct : ct_L := []
set_option maxRecDepth 100000 in
theorem c_Mo_pointsOf {l : Launch} {D : va_G} {kA : Nat → ClassId} : ct_ok l D kA GG y_Mo_pointsOf z_Mo_pointsOf e_Mo_pointsOf := chk_all_ok (FT := [(129, 13, 64), (1020, 13, 139)]) (PT := []) (CT := t_Mo_pointsOf_ct) (KT := []) (AN := n_Mo_pointsOf_an) 0 200 (by decide +kernel) ⟨List.forall_mem_cons.mpr ⟨gf_Mo_129, List.forall_mem_cons.mpr ⟨gf_Mo_1020, List.forall_mem_nil _⟩⟩, List.forall_mem_nil _, List.forall_mem_nil _, List.forall_mem_nil _⟩ (by decide +kernel)
