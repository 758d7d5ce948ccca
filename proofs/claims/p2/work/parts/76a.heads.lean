abbrev b_Ho_dot : ByteArray := prog_1_method_29_code
def y_Ho_dot : MethodName := ⟨"DrawingHouse", "dot", "(II)I"⟩
abbrev z_Ho_dot : List Cond := Cond.code y_Ho_dot b_Ho_dot 3 (some .int) :: lw_g
def e_Ho_dot : en_T := ([(2, 0, 0, [12]), (0, -2147483648, 2147483647, []), (0, -2147483648, 2147483647, [])], some (0, -1, 256, []), true, 6, 0, 0, [([(2, 0, 0, [12]), (0, -2147483648, -1, []), (0, -2147483648, 2147483647, []), (0, -1, -1, [])], [], [3], [], [], []), ([(2, 0, 0, [12]), (0, 0, 2147483647, []), (0, -2147483648, 2147483647, []), (0, -1, -1, [])], [], [3], [], [], []), ([(2, 0, 0, [12]), (0, 0, 63, []), (0, -2147483648, -1, []), (0, -1, -1, [])], [], [3], [], [], []), ([(2, 0, 0, [12]), (0, 0, 63, []), (0, 0, 63, []), (0, 0, 256, [])], [], [3], [], [], []), ([(2, 0, 0, [12]), (0, 0, 63, []), (0, 0, 2147483647, []), (0, -1, -1, [])], [], [3], [], [], [])], [], (0, [], [], [], []))
abbrev b_Ho_fault : ByteArray := prog_1_method_4_code
def y_Ho_fault : MethodName := ⟨"DrawingHouse", "fault", "(I)I"⟩
abbrev z_Ho_fault : List Cond := Cond.code y_Ho_fault b_Ho_fault 2 (some .int) :: lw_g
def e_Ho_fault : en_T := ([(2, 0, 0, [12]), (0, -2147483648, 2147483647, [])], some (0, -1, 2000, []), true, 6, 0, 0, [([(2, 0, 0, [12]), (0, -2147483648, 2147483647, []), (0, -1, -1, [])], [], [2], [], [], []), ([(2, 0, 0, [12]), (0, 1, 1, []), (0, -1, 2000, [])], [], [2], [], [], []), ([(2, 0, 0, [12]), (0, 0, 0, []), (0, -1, 5, [])], [], [2], [], [], [])], [], (0, [], [], [], []))
abbrev b_Ho_isPlace : ByteArray := prog_1_method_30_code
def y_Ho_isPlace : MethodName := ⟨"DrawingHouse", "isPlace", "(I)Z"⟩
abbrev z_Ho_isPlace : List Cond := Cond.code y_Ho_isPlace b_Ho_isPlace 1 (some .boolean) :: lw_g
def e_Ho_isPlace : en_T := ([(0, -2147483648, 2147483647, [])], some (0, 0, 1, []), true, 6, 0, 0, [([(0, -2147483648, -1, []), (0, 0, 0, [])], [], [1], [], [], []), ([(0, 4, 2147483647, []), (0, 0, 0, [])], [], [1], [], [], []), ([(0, 0, 3, []), (0, 1, 1, [])], [], [1], [], [], [])], [], (0, [], [], [], []))
abbrev b_Ho_map : ByteArray := prog_1_method_14_code
def y_Ho_map : MethodName := ⟨"DrawingHouse", "map", "(I)I"⟩
abbrev z_Ho_map : List Cond := Cond.code y_Ho_map b_Ho_map 2 (some .int) :: lw_g
def e_Ho_map : en_T := ([(2, 0, 0, [12]), (0, -2147483648, 2147483647, [])], some (0, -1, 20000, []), true, 6, 0, 0, [([(2, 0, 0, [12]), (0, -2147483648, -1, []), (0, -1, -1, [])], [], [2], [], [], []), ([(2, 0, 0, [12]), (0, 0, 2147483647, []), (0, -1, -1, [])], [], [2], [], [], []), ([(2, 0, 0, [12]), (0, 0, 23, []), (0, -1, 23, [])], [], [2], [], [], []), ([(2, 0, 0, [12]), (0, -1, -1, []), (0, -1, 20000, [])], [], [2], [], [], [])], [], (0, [], [], [], []))
abbrev b_Ho_octet : ByteArray := prog_1_method_27_code
def y_Ho_octet : MethodName := ⟨"DrawingHouse", "octet", "(I)I"⟩
abbrev z_Ho_octet : List Cond := Cond.code y_Ho_octet b_Ho_octet 2 (some .int) :: lw_g
def e_Ho_octet : en_T := ([(2, 0, 0, [12]), (0, -2147483648, 2147483647, [])], some (0, -128, 127, []), true, 6, 0, 0, [([(2, 0, 0, [12]), (0, -2147483648, -1, []), (0, -1, -1, [])], [], [2], [], [], []), ([(2, 0, 0, [12]), (0, 0, 2147483647, []), (0, -1, -1, [])], [], [2], [], [], []), ([(2, 0, 0, [12]), (0, 0, 3999, []), (0, -128, 127, [])], [], [2], [], [], [])], [], (0, [], [], [], []))
abbrev b_Ho_setDot : ByteArray := prog_1_method_45_code
def y_Ho_setDot : MethodName := ⟨"DrawingHouse", "setDot", "(III)V"⟩
abbrev z_Ho_setDot : List Cond := Cond.code y_Ho_setDot b_Ho_setDot 4 none :: lw_g
def e_Ho_setDot : en_T := ([(2, 0, 0, [12]), (0, -2147483648, 2147483647, []), (0, -2147483648, 2147483647, []), (0, 1, 256, [])], none, false, 6, 0, 0, [], [], (348449143727040986586495598010130648530944, [], [], [], []))
abbrev b_Ho_writeByte : ByteArray := prog_1_method_37_code
def y_Ho_writeByte : MethodName := ⟨"DrawingHouse", "writeByte", "(I)V"⟩
abbrev z_Ho_writeByte : List Cond := Cond.code y_Ho_writeByte b_Ho_writeByte 2 none :: lw_g
def e_Ho_writeByte : en_T := ([(2, 0, 0, [12]), (0, -128, 65535, [])], none, false, 6, 0, 0, [], [], (261336857795280739939871698507597986398208, [(12, 12)], [(20, [0, 2], [30, 0, 1, 1, 12, -1, 0, 0])], [(20, [0, 2], [30, 1, 1, 1, 12, -1, 0, 0])], [(0, 0, 99999999, [])]))
abbrev b_Dr_addBend : ByteArray := prog_2_method_4_code
def y_Dr_addBend : MethodName := ⟨"DrawingHouse$Drawing", "addBend", "(III)V"⟩
abbrev z_Dr_addBend : List Cond := Cond.code y_Dr_addBend b_Dr_addBend 4 none :: lw_g
def e_Dr_addBend : en_T := ([(2, 0, 0, [0]), (0, 0, 47, []), (0, -2147483648, 2147483647, []), (0, -2147483648, 2147483647, [])], none, false, 6, 0, 0, [], [], (458752, [], [(20, [0, 1, 4], [30, 0, 1, 2, 4, -1, 0, 0])], [(20, [0, 1, 4], [30, 1, 1, 2, 4, -1, 0, 0])], [(0, 0, 23, [])]))
abbrev b_Dr_countBends : ByteArray := prog_2_method_31_code
def y_Dr_countBends : MethodName := ⟨"DrawingHouse$Drawing", "countBends", "()J"⟩
abbrev z_Dr_countBends : List Cond := Cond.code y_Dr_countBends b_Dr_countBends 4 (some .long) :: lw_g
def e_Dr_countBends : en_T := ([(2, 0, 0, [0])], some (1, -9223372036854775808, 9223372036854775807, []), true, 6, 0, 0, [], [], (0, [], [], [], []))
abbrev b_Dr_pointX : ByteArray := prog_2_method_10_code
def y_Dr_pointX : MethodName := ⟨"DrawingHouse$Drawing", "pointX", "(II)I"⟩
abbrev z_Dr_pointX : List Cond := Cond.code y_Dr_pointX b_Dr_pointX 3 (some .int) :: lw_g
def e_Dr_pointX : en_T := ([(2, 0, 0, [0]), (0, 0, 47, []), (0, 0, 25, [])], some (0, -2147483648, 2147483647, []), true, 6, 0, 0, [([(2, 0, 0, [0]), (0, 0, 47, []), (0, 1, 25, []), (0, -2147483648, 2147483647, [])], [], [3], [], [], []), ([(2, 0, 0, [0]), (0, 0, 47, []), (0, 1, 24, []), (0, -2147483648, 2147483647, [])], [], [3], [], [], []), ([(2, 0, 0, [0]), (0, 0, 47, []), (0, 0, 0, []), (0, -2147483648, 2147483647, [])], [], [3], [], [], [])], [], (0, [], [], [], []))
abbrev b_Dr_pointY : ByteArray := prog_2_method_11_code
def y_Dr_pointY : MethodName := ⟨"DrawingHouse$Drawing", "pointY", "(II)I"⟩
abbrev z_Dr_pointY : List Cond := Cond.code y_Dr_pointY b_Dr_pointY 3 (some .int) :: lw_g
def e_Dr_pointY : en_T := ([(2, 0, 0, [0]), (0, 0, 47, []), (0, 0, 25, [])], some (0, -2147483648, 2147483647, []), true, 6, 0, 0, [([(2, 0, 0, [0]), (0, 0, 47, []), (0, 1, 25, []), (0, -2147483648, 2147483647, [])], [], [3], [], [], []), ([(2, 0, 0, [0]), (0, 0, 47, []), (0, 1, 24, []), (0, -2147483648, 2147483647, [])], [], [3], [], [], []), ([(2, 0, 0, [0]), (0, 0, 47, []), (0, 0, 0, []), (0, -2147483648, 2147483647, [])], [], [3], [], [], [])], [], (0, [], [], [], []))
abbrev b_Dr_sharedNode : ByteArray := prog_2_method_22_code
def y_Dr_sharedNode : MethodName := ⟨"DrawingHouse$Drawing", "sharedNode", "(II)I"⟩
abbrev z_Dr_sharedNode : List Cond := Cond.code y_Dr_sharedNode b_Dr_sharedNode 5 (some .int) :: lw_g
def e_Dr_sharedNode : en_T := ([(2, 0, 0, [0]), (0, 0, 47, []), (0, 1, 47, [])], some (0, -1, 23, []), true, 6, 0, 0, [], [], (0, [], [], [], []))
abbrev b_Em_countFits : ByteArray := prog_3_method_10_code
def y_Em_countFits : MethodName := ⟨"DrawingHouse$Embedder", "countFits", "(I)I"⟩
abbrev z_Em_countFits : List Cond := Cond.code y_Em_countFits b_Em_countFits 4 (some .int) :: lw_g
def e_Em_countFits : en_T := ([(2, 0, 0, [1]), (0, 0, 33554431, [])], some (0, -2147483648, 2147483647, []), true, 6, 0, 0, [], [], (0, [], [], [], []))
abbrev b_Em_firstFit : ByteArray := prog_3_method_11_code
def y_Em_firstFit : MethodName := ⟨"DrawingHouse$Embedder", "firstFit", "(I)I"⟩
abbrev z_Em_firstFit : List Cond := Cond.code y_Em_firstFit b_Em_firstFit 3 (some .int) :: lw_g
def e_Em_firstFit : en_T := ([(2, 0, 0, [1]), (0, 0, 33554431, [])], some (0, 0, 49, []), true, 6, 0, 0, [], [], (0, [], [], [], []))
abbrev b_Em_indexIn : ByteArray := prog_3_method_16_code
def y_Em_indexIn : MethodName := ⟨"DrawingHouse$Embedder", "indexIn", "(II)I"⟩
abbrev z_Em_indexIn : List Cond := Cond.code y_Em_indexIn b_Em_indexIn 4 (some .int) :: lw_g
def e_Em_indexIn : en_T := ([(2, 0, 0, [1]), (0, 0, 49, []), (0, 0, 24, [])], some (0, 0, 24, []), true, 6, 0, 0, [], [], (0, [], [], [], []))
abbrev b_Em_leastEdgeAt : ByteArray := prog_3_method_20_code
def y_Em_leastEdgeAt : MethodName := ⟨"DrawingHouse$Embedder", "leastEdgeAt", "(II)I"⟩
abbrev z_Em_leastEdgeAt : List Cond := Cond.code y_Em_leastEdgeAt b_Em_leastEdgeAt 4 (some .int) :: lw_g
def e_Em_leastEdgeAt : en_T := ([(2, 0, 0, [1]), (0, 0, 24, []), (0, 0, 71, [])], some (0, -1, 71, []), true, 6, 0, 0, [], [((0, 0), (2, 0, 0, [5, 149]))], (0, [], [], [], []))
abbrev b_Fa_gather : ByteArray := prog_4_method_19_code
def y_Fa_gather : MethodName := ⟨"DrawingHouse$Facts", "gather", "(II)I"⟩
abbrev z_Fa_gather : List Cond := Cond.code y_Fa_gather b_Fa_gather 5 (some .int) :: lw_g
def e_Fa_gather : en_T := ([(2, 0, 0, [2]), (0, 0, 24, []), (0, 0, 23, [])], some (0, 0, 24, []), false, 6, 0, 0, [], [], (70368744177664, [], [], [], []))
abbrev b_Fa_isBridge : ByteArray := prog_4_method_10_code
def y_Fa_isBridge : MethodName := ⟨"DrawingHouse$Facts", "isBridge", "(I)Z"⟩
abbrev z_Fa_isBridge : List Cond := Cond.code y_Fa_isBridge b_Fa_isBridge 3 (some .boolean) :: lw_g
def e_Fa_isBridge : en_T := ([(2, 0, 0, [2]), (0, 0, 47, [])], some (0, 0, 1, []), true, 6, 0, 0, [], [], (0, [], [], [], []))
abbrev b_Fa_nearOf_at_Grnear : ByteArray := prog_4_method_4_code
def y_Fa_nearOf_at_Grnear : MethodName := ⟨"DrawingHouse$Facts", "nearOf", "([III)I"⟩
abbrev z_Fa_nearOf_at_Grnear : List Cond := Cond.code y_Fa_nearOf_at_Grnear b_Fa_nearOf_at_Grnear 5 (some .int) :: lw_g
def e_Fa_nearOf_at_Grnear : en_T := ([(2, 0, 0, [59]), (0, 1, 24, []), (0, 0, 16777215, [])], some (0, 0, 16777215, []), true, 6, 0, 0, [], [], (0, [], [], [], []))
abbrev b_Fa_nearOf_at_Nenear : ByteArray := prog_4_method_4_code
def y_Fa_nearOf_at_Nenear : MethodName := ⟨"DrawingHouse$Facts", "nearOf", "([III)I"⟩
abbrev z_Fa_nearOf_at_Nenear : List Cond := Cond.code y_Fa_nearOf_at_Nenear b_Fa_nearOf_at_Nenear 5 (some .int) :: lw_g
def e_Fa_nearOf_at_Nenear : en_T := ([(2, 0, 0, [82]), (0, 1, 24, []), (0, 1, 16777215, [])], some (0, 0, 16777215, []), true, 6, 0, 0, [], [], (0, [], [], [], []))
abbrev b_Fa_nearOf_at_Nenear_Npnear : ByteArray := prog_4_method_4_code
def y_Fa_nearOf_at_Nenear_Npnear : MethodName := ⟨"DrawingHouse$Facts", "nearOf", "([III)I"⟩
abbrev z_Fa_nearOf_at_Nenear_Npnear : List Cond := Cond.code y_Fa_nearOf_at_Nenear_Npnear b_Fa_nearOf_at_Nenear_Npnear 5 (some .int) :: lw_g
def e_Fa_nearOf_at_Nenear_Npnear : en_T := ([(2, 0, 0, [82, 142]), (0, 0, 25, []), (0, 0, 33554431, [])], some (0, 0, 33554431, []), true, 6, 0, 0, [], [], (0, [], [], [], []))
abbrev b_Fa_relabel_at_Emblock : ByteArray := prog_4_method_9_code
def y_Fa_relabel_at_Emblock : MethodName := ⟨"DrawingHouse$Facts", "relabel", "([IIII)V"⟩
abbrev z_Fa_relabel_at_Emblock : List Cond := Cond.code y_Fa_relabel_at_Emblock b_Fa_relabel_at_Emblock 5 none :: lw_g
def e_Fa_relabel_at_Emblock : en_T := ([(2, 0, 0, [26]), (0, 1, 72, []), (0, 0, 71, []), (0, -1, 71, [])], none, false, 6, 0, 0, [], [], (274945015808, [], [], [], []))
abbrev b_Fa_relabel_at_Fablock : ByteArray := prog_4_method_9_code
def y_Fa_relabel_at_Fablock : MethodName := ⟨"DrawingHouse$Facts", "relabel", "([IIII)V"⟩
abbrev z_Fa_relabel_at_Fablock : List Cond := Cond.code y_Fa_relabel_at_Fablock b_Fa_relabel_at_Fablock 5 none :: lw_g
def e_Fa_relabel_at_Fablock : en_T := ([(2, 0, 0, [38]), (0, 1, 48, []), (0, 0, 47, []), (0, -1, 47, [])], none, false, 6, 0, 0, [], [], (274945015808, [], [], [], []))
abbrev b_Fa_setAll : ByteArray := prog_4_method_12_code
def y_Fa_setAll : MethodName := ⟨"DrawingHouse$Facts", "setAll", "([IIII)V"⟩
abbrev z_Fa_setAll : List Cond := Cond.code y_Fa_setAll b_Fa_setAll 5 none :: lw_g
def e_Fa_setAll : en_T := ([(2, 0, 0, [37]), (0, 1, 24, []), (0, 0, 16777215, []), (0, 0, 23, [])], none, false, 6, 0, 0, [], [], (137438953472, [], [], [], []))
abbrev b_Fa_weights : ByteArray := prog_4_method_24_code
def y_Fa_weights : MethodName := ⟨"DrawingHouse$Facts", "weights", "(LDrawingHouse$Graph;IIZ)I"⟩
abbrev z_Fa_weights : List Cond := Cond.code y_Fa_weights b_Fa_weights 8 (some .int) :: lw_g
def e_Fa_weights : en_T := ([(2, 0, 0, [3]), (0, 0, 23, []), (0, 0, 16777215, []), (0, 0, 1, [])], some (0, -2147483648, 2147483647, []), true, 6, 0, 0, [], [], (0, [], [], [], []))
abbrev b_Gr_edgeBetween : ByteArray := prog_5_method_7_code
def y_Gr_edgeBetween : MethodName := ⟨"DrawingHouse$Graph", "edgeBetween", "(II)I"⟩
abbrev z_Gr_edgeBetween : List Cond := Cond.code y_Gr_edgeBetween b_Gr_edgeBetween 3 (some .int) :: lw_g
def e_Gr_edgeBetween : en_T := ([(2, 0, 0, [3]), (0, 0, 23, []), (0, 0, 23, [])], some (0, -1, 47, []), true, 6, 0, 0, [([(2, 0, 0, [3]), (0, 0, 23, []), (0, 0, 23, []), (0, -1, 47, [])], [], [3], [], [], [])], [], (0, [], [], [], []))
abbrev b_Gr_fourLetters : ByteArray := prog_5_method_28_code
def y_Gr_fourLetters : MethodName := ⟨"DrawingHouse$Graph", "fourLetters", "(I)I"⟩
abbrev z_Gr_fourLetters : List Cond := Cond.code y_Gr_fourLetters b_Gr_fourLetters 2 (some .int) :: lw_g
def e_Gr_fourLetters : en_T := ([(2, 0, 0, [3]), (0, 0, 188, [])], some (0, -2147483648, 2147483647, []), true, 6, 0, 0, [([(2, 0, 0, [3]), (0, 0, 188, []), (0, -2147483648, 2147483647, [])], [], [2], [], [], [])], [], (0, [], [], [], []))
abbrev b_Gr_half : ByteArray := prog_5_method_8_code
def y_Gr_half : MethodName := ⟨"DrawingHouse$Graph", "half", "(I)I"⟩
abbrev z_Gr_half : List Cond := Cond.code y_Gr_half b_Gr_half 2 (some .int) :: lw_g
def e_Gr_half : en_T := ([(2, 0, 0, [3]), (0, 0, 23, [])], some (0, 1, 9, []), true, 6, 0, 0, [([(2, 0, 0, [3]), (0, 0, 23, []), (0, 1, 9, [])], [], [2], [], [], [])], [], (0, [], [], [], []))
abbrev b_Gr_hasEdge : ByteArray := prog_5_method_5_code
def y_Gr_hasEdge : MethodName := ⟨"DrawingHouse$Graph", "hasEdge", "(I)Z"⟩
abbrev z_Gr_hasEdge : List Cond := Cond.code y_Gr_hasEdge b_Gr_hasEdge 2 (some .boolean) :: lw_g
def e_Gr_hasEdge : en_T := ([(2, 0, 0, [3]), (0, -2147483648, 2147483647, [])], some (0, 0, 1, []), true, 6, 0, 0, [([(2, 0, 0, [3]), (0, -2147483648, -1, []), (0, 0, 0, [])], [], [2], [], [], []), ([(2, 0, 0, [3]), (0, 0, 2147483647, []), (0, 0, 0, [])], [], [2], [], [], []), ([(2, 0, 0, [3]), (0, 0, 47, []), (0, 1, 1, [])], [], [2], [], [], [])], [], (0, [], [], [], []))
abbrev b_Gr_hasGroup : ByteArray := prog_5_method_6_code
def y_Gr_hasGroup : MethodName := ⟨"DrawingHouse$Graph", "hasGroup", "(I)Z"⟩
abbrev z_Gr_hasGroup : List Cond := Cond.code y_Gr_hasGroup b_Gr_hasGroup 2 (some .boolean) :: lw_g
def e_Gr_hasGroup : en_T := ([(2, 0, 0, [3]), (0, -2147483648, 2147483647, [])], some (0, 0, 1, []), true, 6, 0, 0, [([(2, 0, 0, [3]), (0, -2147483648, -1, []), (0, 0, 0, [])], [], [2], [], [], []), ([(2, 0, 0, [3]), (0, 0, 2147483647, []), (0, 0, 0, [])], [], [2], [], [], []), ([(2, 0, 0, [3]), (0, 0, 7, []), (0, 1, 1, [])], [], [2], [], [], [])], [], (0, [], [], [], []))
abbrev b_Gr_hasLetters_at_Retape : ByteArray := prog_5_method_13_code
def y_Gr_hasLetters_at_Retape : MethodName := ⟨"DrawingHouse$Graph", "hasLetters", "(I[BI)Z"⟩
abbrev z_Gr_hasLetters_at_Retape : List Cond := Cond.code y_Gr_hasLetters_at_Retape b_Gr_hasLetters_at_Retape 5 (some .boolean) :: lw_g
def e_Gr_hasLetters_at_Retape : en_T := ([(2, 0, 0, [3]), (0, 0, 23, []), (2, 0, 0, [109]), (0, 0, 2000, [])], some (0, 0, 1, []), true, 6, 0, 0, [], [], (0, [], [(20, [0, 1, 3], [30, 2000, 1, 2, 4, 1, 0, 0])], [], []))
abbrev b_Gr_hasLetters_at_newGrhasNextName1 : ByteArray := prog_5_method_13_code
def y_Gr_hasLetters_at_newGrhasNextName1 : MethodName := ⟨"DrawingHouse$Graph", "hasLetters", "(I[BI)Z"⟩
abbrev z_Gr_hasLetters_at_newGrhasNextName1 : List Cond := Cond.code y_Gr_hasLetters_at_newGrhasNextName1 b_Gr_hasLetters_at_newGrhasNextName1 5 (some .boolean) :: lw_g
def e_Gr_hasLetters_at_newGrhasNextName1 : en_T := ([(2, 0, 0, [3]), (0, 0, 23, []), (2, 0, 0, [270]), (0, 0, 0, [])], some (0, 0, 1, []), true, 6, 0, 0, [], [], (0, [], [(20, [0, 1, 3], [30, 3, 1, 2, 4, 1, 0, 0])], [], []))
abbrev b_Gr_hasNode : ByteArray := prog_5_method_4_code
def y_Gr_hasNode : MethodName := ⟨"DrawingHouse$Graph", "hasNode", "(I)Z"⟩
abbrev z_Gr_hasNode : List Cond := Cond.code y_Gr_hasNode b_Gr_hasNode 2 (some .boolean) :: lw_g
def e_Gr_hasNode : en_T := ([(2, 0, 0, [3]), (0, -2147483648, 2147483647, [])], some (0, 0, 1, []), true, 6, 0, 0, [([(2, 0, 0, [3]), (0, -2147483648, -1, []), (0, 0, 0, [])], [], [2], [], [], []), ([(2, 0, 0, [3]), (0, 0, 2147483647, []), (0, 0, 0, [])], [], [2], [], [], []), ([(2, 0, 0, [3]), (0, 0, 23, []), (0, 1, 1, [])], [], [2], [], [], [])], [], (0, [], [], [], []))
abbrev b_Gr_nextName : ByteArray := prog_5_method_19_code
def y_Gr_nextName : MethodName := ⟨"DrawingHouse$Graph", "nextName", "([B)I"⟩
abbrev z_Gr_nextName : List Cond := Cond.code y_Gr_nextName b_Gr_nextName 2 (some .int) :: lw_g
def e_Gr_nextName : en_T := ([(2, 0, 0, [3]), (2, 0, 0, [270, 271])], some (0, 2, 3, []), false, 6, 0, 0, [], [], (5691412770192565637459361055147028046803926286285565003667419169156946148062134272, [], [], [], []))
abbrev b_Gr_setLetters : ByteArray := prog_5_method_29_code
def y_Gr_setLetters : MethodName := ⟨"DrawingHouse$Graph", "setLetters", "(II)V"⟩
abbrev z_Gr_setLetters : List Cond := Cond.code y_Gr_setLetters b_Gr_setLetters 3 none :: lw_g
def e_Gr_setLetters : en_T := ([(2, 0, 0, [3]), (0, 0, 188, []), (0, -2147483648, 2147483647, [])], none, false, 6, 0, 0, [], [], (281474976710656, [], [], [], []))
abbrev b_Gr_sizeOfGroup : ByteArray := prog_5_method_10_code
def y_Gr_sizeOfGroup : MethodName := ⟨"DrawingHouse$Graph", "sizeOfGroup", "(I)I"⟩
abbrev z_Gr_sizeOfGroup : List Cond := Cond.code y_Gr_sizeOfGroup b_Gr_sizeOfGroup 6 (some .int) :: lw_g
def e_Gr_sizeOfGroup : en_T := ([(2, 0, 0, [3]), (0, 0, 7, [])], some (0, -2147483648, 2147483647, []), true, 6, 0, 0, [], [], (0, [], [], [], []))
abbrev b_Gr_tie : ByteArray := prog_5_method_16_code
def y_Gr_tie : MethodName := ⟨"DrawingHouse$Graph", "tie", "(I)V"⟩
abbrev z_Gr_tie : List Cond := Cond.code y_Gr_tie b_Gr_tie 2 none :: lw_g
def e_Gr_tie : en_T := ([(2, 0, 0, [3]), (0, 0, 47, [])], none, false, 6, 0, 0, [], [], (1729382256910270464, [], [], [], []))
abbrev b_La_countCrossings : ByteArray := prog_6_method_27_code
def y_La_countCrossings : MethodName := ⟨"DrawingHouse$Layers", "countCrossings", "()I"⟩
abbrev z_La_countCrossings : List Cond := Cond.code y_La_countCrossings b_La_countCrossings 7 (some .int) :: lw_g
def e_La_countCrossings : en_T := ([(2, 0, 0, [4])], some (0, -2147483648, 2147483647, []), true, 6, 0, 0, [], [], (0, [], [], [], []))
abbrev b_La_lowerEnd : ByteArray := prog_6_method_7_code
def y_La_lowerEnd : MethodName := ⟨"DrawingHouse$Layers", "lowerEnd", "(LDrawingHouse$Facts;I)I"⟩
abbrev z_La_lowerEnd : List Cond := Cond.code y_La_lowerEnd b_La_lowerEnd 3 (some .int) :: lw_g
def e_La_lowerEnd : en_T := ([(2, 0, 0, [4]), (2, 0, 0, [2]), (0, 0, 47, [])], some (0, 0, 23, []), true, 6, 0, 0, [([(2, 0, 0, [4]), (2, 0, 0, [2]), (0, 0, 47, []), (2, 0, 0, [3]), (0, 0, 23, [])], [], [4], [((0, 1), 3)], [], [])], [((0, 1), (2, 0, 0, [3]))], (0, [], [], [], []))
abbrev b_La_setPlaces : ByteArray := prog_6_method_25_code
def y_La_setPlaces : MethodName := ⟨"DrawingHouse$Layers", "setPlaces", "(I)V"⟩
abbrev z_La_setPlaces : List Cond := Cond.code y_La_setPlaces b_La_setPlaces 3 none :: lw_g
def e_La_setPlaces : en_T := ([(2, 0, 0, [4]), (0, 0, 24, [])], none, false, 6, 0, 0, [], [], (4722366482869645213696, [], [], [], []))
abbrev b_La_upperEnd : ByteArray := prog_6_method_6_code
def y_La_upperEnd : MethodName := ⟨"DrawingHouse$Layers", "upperEnd", "(LDrawingHouse$Facts;I)I"⟩
abbrev z_La_upperEnd : List Cond := Cond.code y_La_upperEnd b_La_upperEnd 3 (some .int) :: lw_g
def e_La_upperEnd : en_T := ([(2, 0, 0, [4]), (2, 0, 0, [2]), (0, 0, 47, [])], some (0, 0, 23, []), true, 6, 0, 0, [([(2, 0, 0, [4]), (2, 0, 0, [2]), (0, 0, 47, []), (2, 0, 0, [3]), (0, 0, 23, [])], [], [4], [((0, 1), 3)], [], [])], [((0, 1), (2, 0, 0, [3]))], (0, [], [], [], []))
abbrev b_Ne_edgeBetween : ByteArray := prog_7_method_6_code
def y_Ne_edgeBetween : MethodName := ⟨"DrawingHouse$Net", "edgeBetween", "(II)I"⟩
abbrev z_Ne_edgeBetween : List Cond := Cond.code y_Ne_edgeBetween b_Ne_edgeBetween 3 (some .int) :: lw_g
def e_Ne_edgeBetween : en_T := ([(2, 0, 0, [5, 149]), (0, 0, 24, []), (0, 0, 24, [])], some (0, -1, 71, []), true, 6, 0, 0, [([(2, 0, 0, [5, 149]), (0, 0, 24, []), (0, 0, 24, []), (0, -1, 71, [])], [], [3], [], [], [])], [], (0, [], [], [], []))
abbrev b_Ne_endAt : ByteArray := prog_7_method_7_code
def y_Ne_endAt : MethodName := ⟨"DrawingHouse$Net", "endAt", "(II)I"⟩
abbrev z_Ne_endAt : List Cond := Cond.code y_Ne_endAt b_Ne_endAt 3 (some .int) :: lw_g
def e_Ne_endAt : en_T := ([(2, 0, 0, [5, 149]), (0, -1, 71, []), (0, 0, 24, [])], some (0, 0, 143, []), true, 6, 0, 0, [([(2, 0, 0, [5, 149]), (0, 0, 71, []), (0, 0, 24, []), (0, 1, 143, [])], [], [3], [], [], []), ([(2, 0, 0, [5, 149]), (0, 0, 71, []), (0, 0, 24, []), (0, 0, 142, [])], [], [3], [], [], [(3, 2)])], [], (0, [], [], [], []))
abbrev b_Ne_forget : ByteArray := prog_7_method_2_code
def y_Ne_forget : MethodName := ⟨"DrawingHouse$Net", "forget", "()V"⟩
abbrev z_Ne_forget : List Cond := Cond.code y_Ne_forget b_Ne_forget 1 none :: lw_g
def e_Ne_forget : en_T := ([(2, 0, 0, [5])], none, false, 6, 0, 0, [], [], (0, [(5, 0), (5, 1), (5, 2), (5, 3)], [], [], []))
abbrev b_Ne_join_at_Ne : ByteArray := prog_7_method_5_code
def y_Ne_join_at_Ne : MethodName := ⟨"DrawingHouse$Net", "join", "(II)I"⟩
abbrev z_Ne_join_at_Ne : List Cond := Cond.code y_Ne_join_at_Ne b_Ne_join_at_Ne 4 (some .int) :: lw_g
def e_Ne_join_at_Ne : en_T := ([(2, 0, 0, [5]), (0, 0, 23, []), (0, 0, 23, [])], some (0, -1, 71, []), false, 6, 0, 0, [], [], (20906948623622459213323623174827276532449280, [(5, 6)], [], [], []))
abbrev b_Ne_join_at_Np : ByteArray := prog_7_method_5_code
def y_Ne_join_at_Np : MethodName := ⟨"DrawingHouse$Net", "join", "(II)I"⟩
abbrev z_Ne_join_at_Np : List Cond := Cond.code y_Ne_join_at_Np b_Ne_join_at_Np 4 (some .int) :: lw_g
def e_Ne_join_at_Np : en_T := ([(2, 0, 0, [149]), (0, 0, 23, []), (0, 0, 24, [])], some (0, -1, 71, []), false, 6, 0, 0, [], [], (20906948623622459213323623174827276532449280, [(5, 6)], [], [], []))
abbrev b_Ne_nodeOfFace : ByteArray := prog_7_method_13_code
def y_Ne_nodeOfFace : MethodName := ⟨"DrawingHouse$Net", "nodeOfFace", "(II)I"⟩
abbrev z_Ne_nodeOfFace : List Cond := Cond.code y_Ne_nodeOfFace b_Ne_nodeOfFace 3 (some .int) :: lw_g
def e_Ne_nodeOfFace : en_T := ([(2, 0, 0, [5]), (0, 0, 2147483647, []), (0, 0, 2147483647, [])], some (0, -1, 23, []), true, 6, 0, 0, [([(2, 0, 0, [5]), (0, 0, 2147483647, []), (0, 0, 2147483647, []), (0, -1, -1, [])], [], [3], [], [], []), ([(2, 0, 0, [5]), (0, 0, 143, []), (0, 0, 143, []), (0, 0, 23, [])], [], [3], [], [], []), ([(2, 0, 0, [5]), (0, 0, 143, []), (0, 0, 2147483647, []), (0, -1, -1, [])], [], [3], [], [], [])], [], (0, [], [], [], []))
abbrev b_Pl_edgeOfLevel : ByteArray := prog_8_method_8_code
def y_Pl_edgeOfLevel : MethodName := ⟨"DrawingHouse$PlainWays", "edgeOfLevel", "(IIZ)I"⟩
abbrev z_Pl_edgeOfLevel : List Cond := Cond.code y_Pl_edgeOfLevel b_Pl_edgeOfLevel 7 (some .int) :: lw_g
def e_Pl_edgeOfLevel : en_T := ([(2, 0, 0, [6]), (0, 0, 16777215, []), (0, 0, 23, []), (0, 0, 1, [])], some (0, -2147483648, 2147483647, []), true, 6, 0, 0, [], [((0, 0), (2, 0, 0, [3])), ((0, 1), (2, 0, 0, [0]))], (0, [], [], [], []))
abbrev b_Pl_insertItem : ByteArray := prog_8_method_12_code
def y_Pl_insertItem : MethodName := ⟨"DrawingHouse$PlainWays", "insertItem", "(II)V"⟩
abbrev z_Pl_insertItem : List Cond := Cond.code y_Pl_insertItem b_Pl_insertItem 4 none :: lw_g
def e_Pl_insertItem : en_T := ([(2, 0, 0, [6]), (0, 0, 31, []), (0, -2147483648, 2147483647, [])], none, false, 6, 0, 0, [], [], (118842243771396506390315925504, [(6, 11)], [(20, [0, 3], [30, 0, 1, 1, 11, -1, 0, 0])], [(20, [0, 3], [30, 1, 1, 1, 11, -1, 0, 0])], [(0, 0, 31, [])]))
abbrev b_Pl_leastOfPart : ByteArray := prog_8_method_4_code
def y_Pl_leastOfPart : MethodName := ⟨"DrawingHouse$PlainWays", "leastOfPart", "(LDrawingHouse$Facts;I)I"⟩
abbrev z_Pl_leastOfPart : List Cond := Cond.code y_Pl_leastOfPart b_Pl_leastOfPart 4 (some .int) :: lw_g
def e_Pl_leastOfPart : en_T := ([(2, 0, 0, [6]), (2, 0, 0, [2]), (0, 0, 23, [])], some (0, 0, 23, []), true, 6, 0, 0, [], [((0, 0), (2, 0, 0, [3]))], (0, [], [], [], []))
abbrev b_Pl_root : ByteArray := prog_8_method_24_code
def y_Pl_root : MethodName := ⟨"DrawingHouse$PlainWays", "root", "(J)J"⟩
abbrev z_Pl_root : List Cond := Cond.code y_Pl_root b_Pl_root 7 (some .long) :: lw_g
def e_Pl_root : en_T := ([(1, -9223372036854775808, 9223372036854775807, [])], some (1, -9223372036854775808, 9223372036854775807, []), true, 6, 0, 0, [], [], (0, [], [], [], []))
abbrev b_Pl_setArea : ByteArray := prog_8_method_10_code
def y_Pl_setArea : MethodName := ⟨"DrawingHouse$PlainWays", "setArea", "(IIIII)V"⟩
abbrev z_Pl_setArea : List Cond := Cond.code y_Pl_setArea b_Pl_setArea 6 none :: lw_g
def e_Pl_setArea : en_T := ([(2, 0, 0, [6]), (0, 0, 31, []), (0, -2147483648, 2147483647, []), (0, -2147483648, 2147483647, []), (0, -2147483648, 2147483647, []), (0, -2147483648, 2147483647, [])], none, false, 6, 0, 0, [([(2, 0, 0, [6]), (0, 0, 31, []), (0, -2147483648, 2147483647, []), (0, -2147483648, 2147483647, []), (0, -2147483648, 2147483647, []), (0, -2147483648, 2147483647, []), (2, 0, 0, [0])], [], [], [((0, 1), 6)], [], [])], [((0, 1), (2, 0, 0, [0]))], (4194304, [], [], [], []))
abbrev b_Pl_walkTree : ByteArray := prog_8_method_5_code
def y_Pl_walkTree : MethodName := ⟨"DrawingHouse$PlainWays", "walkTree", "(II)I"⟩
abbrev z_Pl_walkTree : List Cond := Cond.code y_Pl_walkTree b_Pl_walkTree 8 (some .int) :: lw_g
def e_Pl_walkTree : en_T := ([(2, 0, 0, [6]), (0, 0, 23, []), (0, 0, 23, [])], some (0, 1, 24, []), false, 6, 0, 0, [], [((0, 0), (2, 0, 0, [3]))], (8046610255354971786844307456, [], [], [], []))
abbrev b_Pn_firstLongFace : ByteArray := prog_9_method_6_code
def y_Pn_firstLongFace : MethodName := ⟨"DrawingHouse$PlanarWays", "firstLongFace", "()I"⟩
abbrev z_Pn_firstLongFace : List Cond := Cond.code y_Pn_firstLongFace b_Pn_firstLongFace 2 (some .int) :: lw_g
def e_Pn_firstLongFace : en_T := ([(2, 0, 0, [7])], some (0, -1, 143, []), true, 6, 0, 0, [], [], (0, [], [], [], []))
abbrev b_Pn_leftFace : ByteArray := prog_9_method_19_code
def y_Pn_leftFace : MethodName := ⟨"DrawingHouse$PlanarWays", "leftFace", "(LDrawingHouse$Net;[II)I"⟩
abbrev z_Pn_leftFace : List Cond := Cond.code y_Pn_leftFace b_Pn_leftFace 4 (some .int) :: lw_g
def e_Pn_leftFace : en_T := ([(2, 0, 0, [5]), (2, 0, 0, [21]), (0, 1, 47, [])], some (0, -1, 143, []), true, 6, 0, 0, [([(2, 0, 0, [5]), (2, 0, 0, [21]), (0, 1, 47, []), (0, -1, 143, [])], [], [3], [], [], [])], [], (0, [], [], [], []))
abbrev b_Pn_rightFace : ByteArray := prog_9_method_20_code
def y_Pn_rightFace : MethodName := ⟨"DrawingHouse$PlanarWays", "rightFace", "(LDrawingHouse$Net;[II)I"⟩
abbrev z_Pn_rightFace : List Cond := Cond.code y_Pn_rightFace b_Pn_rightFace 4 (some .int) :: lw_g
def e_Pn_rightFace : en_T := ([(2, 0, 0, [5]), (2, 0, 0, [21]), (0, 0, 47, [])], some (0, -1, 143, []), true, 6, 0, 0, [([(2, 0, 0, [5]), (2, 0, 0, [21]), (0, 0, 47, []), (0, -1, 143, [])], [], [3], [], [], [])], [], (0, [], [], [], []))
abbrev b_Pn_shiftUnder : ByteArray := prog_9_method_14_code
def y_Pn_shiftUnder : MethodName := ⟨"DrawingHouse$PlanarWays", "shiftUnder", "(LDrawingHouse$Drawing;II)V"⟩
abbrev z_Pn_shiftUnder : List Cond := Cond.code y_Pn_shiftUnder b_Pn_shiftUnder 5 none :: lw_g
def e_Pn_shiftUnder : en_T := ([(2, 0, 0, [7]), (2, 0, 0, [0]), (0, 0, 23, []), (0, 1, 2, [])], none, false, 6, 0, 0, [], [], (16384, [], [], [], []))
abbrev b_Re_append : ByteArray := prog_10_method_2_code
def y_Re_append : MethodName := ⟨"DrawingHouse$Reader", "append", "(I)V"⟩
abbrev z_Re_append : List Cond := Cond.code y_Re_append b_Re_append 3 none :: lw_g
def e_Re_append : en_T := ([(2, 0, 0, [8]), (0, -2147483648, 2147483647, [])], none, false, 6, 0, 0, [], [], (649037107316853453566312041152512, [(8, 1)], [(20, [0, 2], [30, 0, 1, 1, 1, -1, 0, 0])], [(20, [0, 2], [30, 4, 1, 1, 1, -1, 0, 0])], [(0, 0, 1996, [])]))
abbrev b_Re_fail : ByteArray := prog_10_method_4_code
def y_Re_fail : MethodName := ⟨"DrawingHouse$Reader", "fail", "(I)Z"⟩
abbrev z_Re_fail : List Cond := Cond.code y_Re_fail b_Re_fail 2 (some .boolean) :: lw_g
def e_Re_fail : en_T := ([(2, 0, 0, [8]), (0, 1, 5, [])], some (0, 0, 0, []), false, 6, 0, 0, [], [], (0, [(8, 2), (8, 3)], [], [], []))
abbrev b_Re_isDigit : ByteArray := prog_10_method_6_code
def y_Re_isDigit : MethodName := ⟨"DrawingHouse$Reader", "isDigit", "(I)Z"⟩
abbrev z_Re_isDigit : List Cond := Cond.code y_Re_isDigit b_Re_isDigit 1 (some .boolean) :: lw_g
def e_Re_isDigit : en_T := ([(0, -128, 127, [])], some (0, 0, 1, []), true, 6, 0, 0, [([(0, -128, 47, []), (0, 0, 0, [])], [], [1], [], [], []), ([(0, 58, 127, []), (0, 0, 0, [])], [], [1], [], [], []), ([(0, 48, 57, []), (0, 1, 1, [])], [], [1], [], [], [])], [], (0, [], [], [], []))
abbrev b_Re_isLetter : ByteArray := prog_10_method_5_code
def y_Re_isLetter : MethodName := ⟨"DrawingHouse$Reader", "isLetter", "(I)Z"⟩
abbrev z_Re_isLetter : List Cond := Cond.code y_Re_isLetter b_Re_isLetter 1 (some .boolean) :: lw_g
def e_Re_isLetter : en_T := ([(0, -128, 127, [])], some (0, 0, 1, []), true, 6, 0, 0, [([(0, -128, 64, []), (0, 0, 0, [])], [], [1], [], [], []), ([(0, 91, 96, []), (0, 0, 0, [])], [], [1], [], [], []), ([(0, 65, 90, []), (0, 1, 1, [])], [], [1], [], [], []), ([(0, 97, 122, []), (0, 1, 1, [])], [], [1], [], [], []), ([(0, 123, 127, []), (0, 0, 0, [])], [], [1], [], [], [])], [], (0, [], [], [], []))
abbrev b_Re_isSign : ByteArray := prog_10_method_7_code
def y_Re_isSign : MethodName := ⟨"DrawingHouse$Reader", "isSign", "(I)Z"⟩
abbrev z_Re_isSign : List Cond := Cond.code y_Re_isSign b_Re_isSign 1 (some .boolean) :: lw_g
def e_Re_isSign : en_T := ([(0, -128, 127, [])], some (0, 0, 1, []), true, 6, 0, 0, [], [], (0, [], [], [], []))
abbrev b_Ro_enter : ByteArray := prog_11_method_7_code
def y_Ro_enter : MethodName := ⟨"DrawingHouse$Router", "enter", "(II)V"⟩
abbrev z_Ro_enter : List Cond := Cond.code y_Ro_enter b_Ro_enter 3 none :: lw_g
def e_Ro_enter : en_T := ([(2, 0, 0, [9]), (0, 0, 23999, []), (0, -2147483646, 1000000003, [])], none, false, 6, 0, 0, [], [], (77884452878022414427957444938301440, [(9, 14)], [], [], []))
abbrev b_Ro_next : ByteArray := prog_11_method_6_code
def y_Ro_next : MethodName := ⟨"DrawingHouse$Router", "next", "(II)I"⟩
abbrev z_Ro_next : List Cond := Cond.code y_Ro_next b_Ro_next 4 (some .int) :: lw_g
def e_Ro_next : en_T := ([(2, 0, 0, [9]), (0, 0, 5999, []), (0, 0, 3, [])], some (0, -1, 5999, []), true, 6, 0, 0, [], [], (0, [], [(20, [0], [50, 2, 0, 4, 5, 2, 7, 0, 2, 0, 1, 2, 0, 4, 2, 7, 0, 2, 0, 1, 2, 0, 5, 0, 8, 6, 3, 2, 0, 4, 2, 0, 5, 0, 6000]), (20, [1, 0], [50, 2, 0, 1004, 1005, 0, 6, 4, 2, 1, 0, 0, 1, 6, 3, 2, 1, 4, 2, 1, 5])], [(20, [3, 0], [50, 2, 0, 1004, 1005, 3, 6, 1, 2, 1, 0, 0, -1, 2, 6, 0, 2, 0, 0, 1, 0, 0, 6, 4, 2, 1, 0, 0, 1, 6, 3, 2, 1, 4, 2, 1, 5])], []))
abbrev b_Ro_pointOf : ByteArray := prog_11_method_4_code
def y_Ro_pointOf : MethodName := ⟨"DrawingHouse$Router", "pointOf", "(I)I"⟩
abbrev z_Ro_pointOf : List Cond := Cond.code y_Ro_pointOf b_Ro_pointOf 2 (some .int) :: lw_g
def e_Ro_pointOf : en_T := ([(2, 0, 0, [9]), (0, 0, 23, [])], some (0, -2147483648, 2147483647, []), true, 6, 0, 0, [([(2, 0, 0, [9]), (0, 0, 23, []), (2, 0, 0, [0]), (0, -2147483648, 2147483647, [])], [], [3], [((0, 1), 2)], [], [])], [((0, 1), (2, 0, 0, [0]))], (0, [], [], [], []))
abbrev b_St_addArc : ByteArray := prog_12_method_5_code
def y_St_addArc : MethodName := ⟨"DrawingHouse$Stretch", "addArc", "(IIII)V"⟩
abbrev z_St_addArc : List Cond := Cond.code y_St_addArc b_St_addArc 5 none :: lw_g
def e_St_addArc : en_T := ([(2, 0, 0, [10]), (0, 0, 71, []), (0, 0, 71, []), (0, 0, 1000000000, []), (0, -20, 20, [])], none, false, 6, 0, 0, [], [], (4984604984193434523389276476051292160, [(10, 1)], [], [], []))
abbrev b_St_begin : ByteArray := prog_12_method_2_code
def y_St_begin : MethodName := ⟨"DrawingHouse$Stretch", "begin", "(I)V"⟩
abbrev z_St_begin : List Cond := Cond.code y_St_begin b_St_begin 2 none :: lw_g
def e_St_begin : en_T := ([(2, 0, 0, [10]), (0, 0, 72, [])], none, false, 6, 0, 0, [], [], (0, [(10, 0), (10, 1)], [], [], []))
abbrev b_St_raise : ByteArray := prog_12_method_8_code
def y_St_raise : MethodName := ⟨"DrawingHouse$Stretch", "raise", "()Z"⟩
abbrev z_St_raise : List Cond := Cond.code y_St_raise b_St_raise 3 (some .boolean) :: lw_g
def e_St_raise : en_T := ([(2, 0, 0, [10])], some (0, 0, 1, []), false, 6, 0, 0, [], [], (15950735949418990474845684723364134912, [], [], [], []))
abbrev b_Sy_emit : ByteArray := prog_13_method_8_code
def y_Sy_emit : MethodName := ⟨"DrawingHouse$Styler", "emit", "(II)V"⟩
abbrev z_Sy_emit : List Cond := Cond.code y_Sy_emit b_Sy_emit 3 none :: lw_g
def e_Sy_emit : en_T := ([(2, 0, 0, [11]), (0, 0, 13, []), (0, -2147483648, 2147483647, [])], none, false, 6, 0, 0, [], [], (85070591730234615865843651857942052864, [(11, 11)], [], [], []))
abbrev b_Sy_fail : ByteArray := prog_13_method_3_code
def y_Sy_fail : MethodName := ⟨"DrawingHouse$Styler", "fail", "(I)Z"⟩
abbrev z_Sy_fail : List Cond := Cond.code y_Sy_fail b_Sy_fail 2 (some .boolean) :: lw_g
def e_Sy_fail : en_T := ([(2, 0, 0, [11]), (0, 1, 2, [])], some (0, 0, 0, []), false, 6, 0, 0, [], [], (0, [(11, 1), (11, 2)], [], [], []))
abbrev b_Sy_isSmall : ByteArray := prog_13_method_4_code
def y_Sy_isSmall : MethodName := ⟨"DrawingHouse$Styler", "isSmall", "(I)Z"⟩
abbrev z_Sy_isSmall : List Cond := Cond.code y_Sy_isSmall b_Sy_isSmall 1 (some .boolean) :: lw_g
def e_Sy_isSmall : en_T := ([(0, -128, 127, [])], some (0, 0, 1, []), true, 6, 0, 0, [([(0, -128, 96, []), (0, 0, 0, [])], [], [1], [], [], []), ([(0, 123, 127, []), (0, 0, 0, [])], [], [1], [], [], []), ([(0, 97, 122, []), (0, 1, 1, [])], [], [1], [], [], [])], [], (0, [], [], [], []))
abbrev b_Sy_pop : ByteArray := prog_13_method_23_code
def y_Sy_pop : MethodName := ⟨"DrawingHouse$Styler", "pop", "()J"⟩
abbrev z_Sy_pop : List Cond := Cond.code y_Sy_pop b_Sy_pop 1 (some .long) :: lw_g
def e_Sy_pop : en_T := ([(2, 0, 0, [11])], some (1, -9223372036854775808, 9223372036854775807, []), false, 6, 0, 0, [], [], (0, [(11, 15)], [], [], []))
abbrev b_Sy_push : ByteArray := prog_13_method_22_code
def y_Sy_push : MethodName := ⟨"DrawingHouse$Styler", "push", "(J)V"⟩
abbrev z_Sy_push : List Cond := Cond.code y_Sy_push b_Sy_push 3 none :: lw_g
def e_Sy_push : en_T := ([(2, 0, 0, [11]), (1, -9223372036854775808, 9223372036854775807, [])], none, false, 6, 0, 0, [], [], (680564733841876926926749214863536422912, [(11, 15)], [], [], []))
abbrev b_Mo_across1 : ByteArray := prog_15_method_63_code
def y_Mo_across1 : MethodName := ⟨"DrawingHouseModel", "across", "(II)I"⟩
abbrev z_Mo_across1 : List Cond := Cond.code y_Mo_across1 b_Mo_across1 3 (some .int) :: lw_g
def e_Mo_across1 : en_T := ([(2, 0, 0, [150]), (0, 0, 79, []), (0, 0, 24, [])], some (0, 0, 24, []), true, 6, 0, 0, [([(2, 0, 0, [150]), (0, 0, 79, []), (0, 0, 24, []), (0, 0, 24, [])], [], [3], [], [], [])], [], (0, [], [], [], []))
abbrev b_Mo_apart : ByteArray := prog_15_method_112_code
def y_Mo_apart : MethodName := ⟨"DrawingHouseModel", "apart", "(III)V"⟩
abbrev z_Mo_apart : List Cond := Cond.code y_Mo_apart b_Mo_apart 4 none :: lw_g
def e_Mo_apart : en_T := ([(2, 0, 0, [150]), (0, 0, 75, []), (0, 0, 75, []), (0, 1, 20, [])], none, false, 6, 0, 0, [], [], (5759265950624221147542392138950726767439575529717529521720131584, [(13, 81)], [(20, [0, 4], [30, 0, 1, 1, 81, -1, 0, 0])], [(20, [0, 4], [30, 1, 1, 1, 81, -1, 0, 0])], [(0, 0, 199, [])]))
abbrev b_Mo_at1 : ByteArray := prog_15_method_64_code
def y_Mo_at1 : MethodName := ⟨"DrawingHouseModel", "at", "(II)Z"⟩
abbrev z_Mo_at1 : List Cond := Cond.code y_Mo_at1 b_Mo_at1 3 (some .boolean) :: lw_g
def e_Mo_at1 : en_T := ([(2, 0, 0, [150]), (0, 0, 79, []), (0, -1, 25, [])], some (0, 0, 1, []), true, 6, 0, 0, [([(2, 0, 0, [150]), (0, 0, 79, []), (0, -1, 25, []), (0, 0, 0, [])], [], [3], [], [], []), ([(2, 0, 0, [150]), (0, 0, 79, []), (0, 0, 24, []), (0, 1, 1, [])], [], [3], [], [], [])], [], (0, [], [], [], []))
abbrev b_Mo_behind : ByteArray := prog_15_method_86_code
def y_Mo_behind : MethodName := ⟨"DrawingHouseModel", "behind", "(II)I"⟩
abbrev z_Mo_behind : List Cond := Cond.code y_Mo_behind b_Mo_behind 6 (some .int) :: lw_g
def e_Mo_behind : en_T := ([(2, 0, 0, [150]), (0, 0, 24, []), (0, 0, 24, [])], some (0, -1, 24, []), true, 6, 0, 0, [], [], (0, [], [], [], []))
abbrev b_Mo_bounded : ByteArray := prog_15_method_176_code
def y_Mo_bounded : MethodName := ⟨"DrawingHouseModel", "bounded", "(JJ)J"⟩
abbrev z_Mo_bounded : List Cond := Cond.code y_Mo_bounded b_Mo_bounded 4 (some .long) :: lw_g
def e_Mo_bounded : en_T := ([(1, -9223372036854775808, 9223372036854775807, []), (1, 0, 256, [])], some (1, -256, 256, []), true, 6, 0, 0, [([(1, -256, 256, []), (1, 0, 256, [])], [], [0], [], [], []), ([(1, -9223372036854775808, -1, []), (1, 0, 256, []), (1, -256, 0, [])], [], [2], [], [], []), ([(1, 1, 9223372036854775807, []), (1, 0, 256, [])], [], [1], [], [], [])], [], (0, [], [], [], []))
abbrev b_Mo_byteAt : ByteArray := prog_15_method_25_code
def y_Mo_byteAt : MethodName := ⟨"DrawingHouseModel", "byteAt", "(I)I"⟩
abbrev z_Mo_byteAt : List Cond := Cond.code y_Mo_byteAt b_Mo_byteAt 2 (some .int) :: lw_g
def e_Mo_byteAt : en_T := ([(2, 0, 0, [150]), (0, 0, 2147483647, [])], some (0, -1, 255, []), true, 6, 0, 0, [([(2, 0, 0, [150]), (0, 0, 2147483647, []), (0, -1, -1, [])], [], [2], [], [], []), ([(2, 0, 0, [150]), (0, 0, 1999, []), (0, 0, 255, [])], [], [2], [], [], [])], [], (0, [], [], [(20, [1, 0, 2], [50, 1, 1, 1010, 1001, 4, 11, 0, 6, 4, 2, 1, 0, 0, 1, 2, 1, 10, 1, 2, 1, 2, 9, 5, 3, 1, 1, 1, 0, 0, 256]), (20, [0, 1, 2], [50, 1, 0, 10, 4, 7, 0, 3, 2, 0, 10, 1, 1, 1, 2, 1, 2, 0, -1])], []))
abbrev b_Mo_changed : ByteArray := prog_15_method_42_code
def y_Mo_changed : MethodName := ⟨"DrawingHouseModel", "changed", "(I)V"⟩
abbrev z_Mo_changed : List Cond := Cond.code y_Mo_changed b_Mo_changed 3 none :: lw_g
def e_Mo_changed : en_T := ([(2, 0, 0, [150]), (0, 0, 3, [])], none, false, 6, 0, 0, [], [], (401832590779362985772425457295028270418302347749517959364608, [], [], [], []))
abbrev b_Mo_clear : ByteArray := prog_15_method_8_code
def y_Mo_clear : MethodName := ⟨"DrawingHouseModel", "clear", "(I)V"⟩
abbrev z_Mo_clear : List Cond := Cond.code y_Mo_clear b_Mo_clear 3 none :: lw_g
def e_Mo_clear : en_T := ([(2, 0, 0, [150]), (5, 0, 66297, [539])], none, false, 6, 0, 0, [], [], (5708990770823839524233143877797980545530986496, [], [], [(20, [0, 1], [50, 0, 1, 2, 1, 9, 3, 0, 2, 4, 2, 1, 1, 0, 2, 0, 1])], []))
abbrev b_Mo_closer : ByteArray := prog_15_method_74_code
def y_Mo_closer : MethodName := ⟨"DrawingHouseModel", "closer", "(IIIIZ)Z"⟩
abbrev z_Mo_closer : List Cond := Cond.code y_Mo_closer b_Mo_closer 6 (some .boolean) :: lw_g
def e_Mo_closer : en_T := ([(2, 0, 0, [150]), (0, 0, 24, []), (0, 0, 24, []), (0, 0, 25, []), (0, 0, 24, []), (0, 0, 1, [])], some (0, 0, 1, []), false, 6, 0, 0, [], [], (191561942608236107294793378393788647952342390272950272, [], [], [], []))
abbrev b_Mo_cost : ByteArray := prog_15_method_111_code
def y_Mo_cost : MethodName := ⟨"DrawingHouseModel", "cost", "(IIIZ)V"⟩
abbrev z_Mo_cost : List Cond := Cond.code y_Mo_cost b_Mo_cost 5 none :: lw_g
def e_Mo_cost : en_T := ([(2, 0, 0, [150]), (0, 0, 75, []), (0, 0, 75, []), (0, 0, 72, []), (0, 0, 1, [])], none, false, 6, 0, 0, [], [], (771330261244315332260141804323758049210657437015740560944660480, [(13, 80)], [(20, [0, 5], [30, 0, 1, 1, 80, -1, 0, 0])], [(20, [0, 5], [30, 1, 1, 1, 80, -1, 0, 0])], [(0, 0, 199, [])]))
abbrev b_Mo_degree : ByteArray := prog_15_method_58_code
def y_Mo_degree : MethodName := ⟨"DrawingHouseModel", "degree", "(II)I"⟩
abbrev z_Mo_degree : List Cond := Cond.code y_Mo_degree b_Mo_degree 5 (some .int) :: lw_g
def e_Mo_degree : en_T := ([(2, 0, 0, [150]), (5, 0, 66297, [539]), (0, 0, 23, [])], some (0, -2147483648, 2147483647, []), true, 6, 0, 0, [], [], (0, [], [], [], []))
abbrev b_Mo_dx : ByteArray := prog_15_method_190_code
def y_Mo_dx : MethodName := ⟨"DrawingHouseModel", "dx", "(I)I"⟩
abbrev z_Mo_dx : List Cond := Cond.code y_Mo_dx b_Mo_dx 1 (some .int) :: lw_g
def e_Mo_dx : en_T := ([(0, -1, 3, [])], some (0, -1, 1, []), true, 6, 0, 0, [([(0, -1, 3, []), (0, 0, 0, [])], [], [1], [], [], []), ([(0, 2, 2, []), (0, -1, -1, [])], [], [1], [], [], []), ([(0, 0, 0, []), (0, 1, 1, [])], [], [1], [], [], [])], [], (0, [], [], [], []))
abbrev b_Mo_dy : ByteArray := prog_15_method_191_code
def y_Mo_dy : MethodName := ⟨"DrawingHouseModel", "dy", "(I)I"⟩
abbrev z_Mo_dy : List Cond := Cond.code y_Mo_dy b_Mo_dy 1 (some .int) :: lw_g
def e_Mo_dy : en_T := ([(0, -1, 3, [])], some (0, -1, 1, []), true, 6, 0, 0, [([(0, -1, 2, []), (0, 0, 0, [])], [], [1], [], [], []), ([(0, 3, 3, []), (0, -1, -1, [])], [], [1], [], [], []), ([(0, 1, 1, []), (0, 1, 1, [])], [], [1], [], [], [])], [], (0, [], [], [], []))
abbrev b_Mo_edgeWay : ByteArray := prog_15_method_57_code
def y_Mo_edgeWay : MethodName := ⟨"DrawingHouseModel", "edgeWay", "(III)I"⟩
abbrev z_Mo_edgeWay : List Cond := Cond.code y_Mo_edgeWay b_Mo_edgeWay 8 (some .int) :: lw_g
def e_Mo_edgeWay : en_T := ([(2, 0, 0, [150]), (5, 0, 66297, [539]), (0, -1, 23, []), (0, 0, 23, [])], some (0, 0, 3, []), true, 6, 0, 0, [], [], (0, [], [], [], []))
abbrev b_Mo_edges : ByteArray := prog_15_method_12_code
def y_Mo_edges : MethodName := ⟨"DrawingHouseModel", "edges", "()I"⟩
abbrev z_Mo_edges : List Cond := Cond.code y_Mo_edges b_Mo_edges 1 (some .int) :: lw_g
def e_Mo_edges : en_T := ([(2, 0, 0, [150])], some (0, 0, 48, []), true, 6, 0, 0, [([(2, 0, 0, [150]), (0, 0, 48, [])], [], [1], [], [], [])], [], (0, [], [], [(20, [1, 0], [30, 0, 1, 0, 0, -1, 3, 2005001]), (20, [1, 0], [30, 0, -1, 0, 0, 1, 3, 2005001])], []))
abbrev b_Mo_feed : ByteArray := prog_15_method_6_code
def y_Mo_feed : MethodName := ⟨"DrawingHouseModel", "feed", "(IIIII)I"⟩
abbrev z_Mo_feed : List Cond := Cond.code y_Mo_feed b_Mo_feed 8 (some .int) :: lw_g
def e_Mo_feed : en_T := ([(2, 0, 0, [150]), (0, -2147483648, 2147483647, []), (0, -2147483648, 2147483647, []), (0, -2147483648, 2147483647, []), (0, -2147483648, 2147483647, []), (0, -2147483648, 2147483647, [])], some (0, -1, 2000, []), false, 6, 0, 0, [], [], (2854495385411919762116571938898990272765493248, [(13, 0)], [], [], []))
abbrev b_Mo_fitsFace : ByteArray := prog_15_method_78_code
def y_Mo_fitsFace : MethodName := ⟨"DrawingHouseModel", "fitsFace", "(II)Z"⟩
abbrev z_Mo_fitsFace : List Cond := Cond.code y_Mo_fitsFace b_Mo_fitsFace 3 (some .boolean) :: lw_g
def e_Mo_fitsFace : en_T := ([(2, 0, 0, [150]), (0, 0, 79, []), (0, 0, 119, [])], some (0, 0, 1, []), true, 6, 0, 0, [([(2, 0, 0, [150]), (0, 0, 79, []), (0, 0, 119, []), (0, 0, 0, [])], [], [3], [], [], []), ([(2, 0, 0, [150]), (0, 0, 79, []), (0, 0, 119, []), (0, 1, 1, [])], [], [3], [], [], [])], [], (0, [], [], [], []))
abbrev b_Mo_flood : ByteArray := prog_15_method_65_code
def y_Mo_flood : MethodName := ⟨"DrawingHouseModel", "flood", "(II)V"⟩
abbrev z_Mo_flood : List Cond := Cond.code y_Mo_flood b_Mo_flood 5 none :: lw_g
def e_Mo_flood : en_T := ([(2, 0, 0, [150]), (0, 0, 24, []), (0, -1, 24, [])], none, false, 6, 0, 0, [], [], (1496577676626844588240573268701473812127674924007424, [], [], [], []))
abbrev b_Mo_fromOf : ByteArray := prog_15_method_87_code
def y_Mo_fromOf : MethodName := ⟨"DrawingHouseModel", "fromOf", "(I)I"⟩
abbrev z_Mo_fromOf : List Cond := Cond.code y_Mo_fromOf b_Mo_fromOf 2 (some .int) :: lw_g
def e_Mo_fromOf : en_T := ([(2, 0, 0, [150]), (0, 0, 159, [])], some (0, 0, 24, []), true, 6, 0, 0, [([(2, 0, 0, [150]), (0, 0, 159, []), (0, 0, 24, [])], [], [2], [], [], [])], [], (0, [], [], [], []))
abbrev b_Mo_gatherOne : ByteArray := prog_15_method_168_code
def y_Mo_gatherOne : MethodName := ⟨"DrawingHouseModel", "gatherOne", "(II)V"⟩
abbrev z_Mo_gatherOne : List Cond := Cond.code y_Mo_gatherOne b_Mo_gatherOne 4 none :: lw_g
def e_Mo_gatherOne : en_T := ([(2, 0, 0, [150]), (0, 0, 107, []), (0, -2147483648, 2147483647, [])], none, false, 6, 0, 0, [], [], (169617318218724895639996560071320177519438454100059419979674195324091498496, [(13, 132)], [(20, [0, 3], [30, 0, 1, 1, 132, -1, 0, 0])], [(20, [0, 3], [30, 1, 1, 1, 132, -1, 0, 0])], [(0, 0, 39, [])]))
abbrev b_Mo_groupOf : ByteArray := prog_15_method_19_code
def y_Mo_groupOf : MethodName := ⟨"DrawingHouseModel", "groupOf", "(I)I"⟩
abbrev z_Mo_groupOf : List Cond := Cond.code y_Mo_groupOf b_Mo_groupOf 2 (some .int) :: lw_g
def e_Mo_groupOf : en_T := ([(2, 0, 0, [150]), (0, 0, 23, [])], some (0, 0, 7, []), true, 6, 0, 0, [([(2, 0, 0, [150]), (0, 0, 23, []), (0, 0, 7, [])], [], [2], [], [], [])], [], (0, [], [], [], []))
abbrev b_Mo_groups : ByteArray := prog_15_method_13_code
def y_Mo_groups : MethodName := ⟨"DrawingHouseModel", "groups", "()I"⟩
abbrev z_Mo_groups : List Cond := Cond.code y_Mo_groups b_Mo_groups 1 (some .int) :: lw_g
def e_Mo_groups : en_T := ([(2, 0, 0, [150])], some (0, 0, 8, []), true, 6, 0, 0, [([(2, 0, 0, [150]), (0, 0, 8, [])], [], [1], [], [], [])], [], (0, [], [], [(20, [1, 0], [30, 0, 1, 0, 0, -1, 3, 2005002]), (20, [1, 0], [30, 0, -1, 0, 0, 1, 3, 2005002])], []))
abbrev b_Mo_hangs : ByteArray := prog_15_method_160_code
def y_Mo_hangs : MethodName := ⟨"DrawingHouseModel", "hangs", "(II)V"⟩
abbrev z_Mo_hangs : List Cond := Cond.code y_Mo_hangs b_Mo_hangs 3 none :: lw_g
def e_Mo_hangs : en_T := ([(2, 0, 0, [150]), (0, 0, 23, []), (0, 0, 23, [])], none, false, 6, 0, 0, [], [], (21202164777340611954999570008915022189929806762507427497459274415511437312, [], [(20, [0], [50, 1, 3, 5, 2, 128, 127, 5, 2, 0, 24, 4, 14, 0, 6, 4, 2, 7, 0, 0, 1, 3, 0, 2, 2, 0, 5, 2, 9, 0, 2, 0, -1, 3, 0, 128, 7, 0, 2, 9, 0, 5, 3, 0, 128, 7, 0, 0, 24, 4, 9, 0, 2, 0, 0, 3, 0, 127, 7, 0, 2, 17, 0, 9, 4, 5, 3, 0, 127, 7, 0, 0, 1, 3, 0, 2, 2, 0, 5, 2, 12, 0, 2, 0, 0, 3, 0, 128, 3, 0, 127, 7, 0, 0, 12, 4, 8, 3, 0, 128, 3, 0, 127, 7, 0, 0, 1, 3, 0, 128, 7, 0]), (20, [1, 0], [30, -1, 1, 0, 0, -1, 3, 2005000]), (20, [2, 0], [30, -1, 1, 0, 0, -1, 3, 2005000]), (20, [0, 2, 1], [50, 0, 1, 128, 2, 9, 0, 2, 0, 0, 3, 0, 128, 1, 1, 2, 9, 0, 5, 3, 0, 128, 1, 1, 0, 23, 0, 5, 3, 0, 128, 1, 2, 0, -1])], [(20, [0], [50, 1, 3, 5, 2, 128, 127, 5, 2, 0, 24, 4, 14, 0, 6, 4, 2, 7, 0, 0, 1, 3, 0, 2, 2, 0, 5, 2, 9, 0, 2, 0, -1, 3, 0, 128, 7, 0, 2, 9, 0, 5, 3, 0, 128, 7, 0, 0, 24, 4, 9, 0, 2, 0, 0, 3, 0, 127, 7, 0, 2, 17, 0, 9, 4, 5, 3, 0, 127, 7, 0, 0, 1, 3, 0, 2, 2, 0, 5, 2, 12, 0, 2, 0, 0, 3, 0, 128, 3, 0, 127, 7, 0, 0, 12, 4, 8, 3, 0, 128, 3, 0, 127, 7, 0, 0, 1, 3, 0, 128, 7, 0])], []))
abbrev b_Mo_head : ByteArray := prog_15_method_15_code
def y_Mo_head : MethodName := ⟨"DrawingHouseModel", "head", "(I)I"⟩
abbrev z_Mo_head : List Cond := Cond.code y_Mo_head b_Mo_head 2 (some .int) :: lw_g
def e_Mo_head : en_T := ([(2, 0, 0, [150]), (0, 0, 47, [])], some (0, 0, 23, []), true, 6, 0, 0, [([(2, 0, 0, [150]), (0, 0, 47, []), (0, 0, 23, [])], [], [2], [], [], [])], [], (0, [], [], [(20, [2, 0, 1], [50, 1, 1, 1005, 1002, 1, 2, 1, 0, 3, 1, 2, 4, 7, 4, 3, 2, 1, 5, 0, 315, 1, 2])], []))
abbrev b_Mo_in : ByteArray := prog_15_method_3_code
def y_Mo_in : MethodName := ⟨"DrawingHouseModel", "in", "(III)Z"⟩
abbrev z_Mo_in : List Cond := Cond.code y_Mo_in b_Mo_in 3 (some .boolean) :: lw_g
def e_Mo_in : en_T := ([(0, -2147483648, 2147483647, []), (0, -2147483648, 2147483647, []), (0, -2147483648, 2147483647, [])], some (0, 0, 1, []), true, 6, 0, 0, [([(0, -2147483648, 2147483646, []), (0, -2147483647, 2147483647, []), (0, -2147483648, 2147483647, []), (0, 0, 0, [])], [], [3], [], [(0, 1, -1000000000000, -1)], []), ([(0, -2147483647, 2147483647, []), (0, -2147483648, 2147483647, []), (0, -2147483648, 2147483646, []), (0, 0, 0, [])], [], [3], [], [(0, 2, 1, 1000000000000), (0, 1, 0, 1000000000000)], []), ([(0, -2147483648, 2147483647, []), (0, -2147483648, 2147483647, []), (0, -2147483648, 2147483647, []), (0, 1, 1, [])], [], [3], [], [(0, 2, -1000000000000, 0), (0, 1, 0, 1000000000000)], [])], [], (0, [], [], [], []))
abbrev b_Mo_isAhead : ByteArray := prog_15_method_164_code
def y_Mo_isAhead : MethodName := ⟨"DrawingHouseModel", "isAhead", "(III)Z"⟩
abbrev z_Mo_isAhead : List Cond := Cond.code y_Mo_isAhead b_Mo_isAhead 5 (some .boolean) :: lw_g
def e_Mo_isAhead : en_T := ([(2, 0, 0, [150]), (0, 0, 23, []), (0, -1, 23, []), (0, 0, 23, [])], some (0, 0, 1, []), true, 6, 0, 0, [], [], (0, [], [(20, [0], [50, 1, 3, 5, 2, 128, 127, 5, 2, 0, 24, 4, 14, 0, 6, 4, 2, 7, 0, 0, 1, 3, 0, 2, 2, 0, 5, 2, 9, 0, 2, 0, -1, 3, 0, 128, 7, 0, 2, 9, 0, 5, 3, 0, 128, 7, 0, 0, 24, 4, 9, 0, 2, 0, 0, 3, 0, 127, 7, 0, 2, 17, 0, 9, 4, 5, 3, 0, 127, 7, 0, 0, 1, 3, 0, 2, 2, 0, 5, 2, 12, 0, 2, 0, 0, 3, 0, 128, 3, 0, 127, 7, 0, 0, 12, 4, 8, 3, 0, 128, 3, 0, 127, 7, 0, 0, 1, 3, 0, 128, 7, 0]), (20, [1, 0], [30, -1, 1, 0, 0, -1, 3, 2005000])], [], []))
abbrev b_Mo_isBridge : ByteArray := prog_15_method_97_code
def y_Mo_isBridge : MethodName := ⟨"DrawingHouseModel", "isBridge", "(I)Z"⟩
abbrev z_Mo_isBridge : List Cond := Cond.code y_Mo_isBridge b_Mo_isBridge 4 (some .boolean) :: lw_g
def e_Mo_isBridge : en_T := ([(2, 0, 0, [150]), (0, 0, 47, [])], some (0, 0, 1, []), true, 6, 0, 0, [], [], (0, [], [], [], []))
abbrev b_Mo_isEnd : ByteArray := prog_15_method_77_code
def y_Mo_isEnd : MethodName := ⟨"DrawingHouseModel", "isEnd", "(II)Z"⟩
abbrev z_Mo_isEnd : List Cond := Cond.code y_Mo_isEnd b_Mo_isEnd 3 (some .boolean) :: lw_g
def e_Mo_isEnd : en_T := ([(2, 0, 0, [150]), (0, 0, 79, []), (0, 0, 25, [])], some (0, 0, 1, []), true, 6, 0, 0, [([(2, 0, 0, [150]), (0, 0, 79, []), (0, 0, 25, []), (0, 0, 0, [])], [], [3], [], [], []), ([(2, 0, 0, [150]), (0, 0, 79, []), (0, 0, 25, []), (0, 1, 1, [])], [], [3], [], [], [])], [], (0, [], [], [], []))
abbrev b_Mo_isMember : ByteArray := prog_15_method_116_code
def y_Mo_isMember : MethodName := ⟨"DrawingHouseModel", "isMember", "(I)Z"⟩
abbrev z_Mo_isMember : List Cond := Cond.code y_Mo_isMember b_Mo_isMember 3 (some .boolean) :: lw_g
def e_Mo_isMember : en_T := ([(2, 0, 0, [150]), (0, 0, 23, [])], some (0, 0, 1, []), true, 6, 0, 0, [], [], (0, [], [], [], []))
abbrev b_Mo_isSmall : ByteArray := prog_15_method_127_code
def y_Mo_isSmall : MethodName := ⟨"DrawingHouseModel", "isSmall", "()Z"⟩
abbrev z_Mo_isSmall : List Cond := Cond.code y_Mo_isSmall b_Mo_isSmall 2 (some .boolean) :: lw_g
def e_Mo_isSmall : en_T := ([(2, 0, 0, [150])], some (0, 0, 1, []), true, 6, 0, 0, [], [], (0, [], [], [], []))
abbrev b_Mo_isUnder : ByteArray := prog_15_method_161_code
def y_Mo_isUnder : MethodName := ⟨"DrawingHouseModel", "isUnder", "(II)Z"⟩
abbrev z_Mo_isUnder : List Cond := Cond.code y_Mo_isUnder b_Mo_isUnder 4 (some .boolean) :: lw_g
def e_Mo_isUnder : en_T := ([(2, 0, 0, [150]), (0, 0, 23, []), (0, 0, 23, [])], some (0, 0, 1, []), true, 6, 0, 0, [], [], (0, [], [(20, [0], [50, 1, 3, 5, 2, 128, 127, 5, 2, 0, 24, 4, 14, 0, 6, 4, 2, 7, 0, 0, 1, 3, 0, 2, 2, 0, 5, 2, 9, 0, 2, 0, -1, 3, 0, 128, 7, 0, 2, 9, 0, 5, 3, 0, 128, 7, 0, 0, 24, 4, 9, 0, 2, 0, 0, 3, 0, 127, 7, 0, 2, 17, 0, 9, 4, 5, 3, 0, 127, 7, 0, 0, 1, 3, 0, 2, 2, 0, 5, 2, 12, 0, 2, 0, 0, 3, 0, 128, 3, 0, 127, 7, 0, 0, 12, 4, 8, 3, 0, 128, 3, 0, 127, 7, 0, 0, 1, 3, 0, 128, 7, 0]), (20, [1, 0], [30, -1, 1, 0, 0, -1, 3, 2005000])], [], []))
abbrev b_Mo_isWithin : ByteArray := prog_15_method_101_code
def y_Mo_isWithin : MethodName := ⟨"DrawingHouseModel", "isWithin", "(II)Z"⟩
abbrev z_Mo_isWithin : List Cond := Cond.code y_Mo_isWithin b_Mo_isWithin 4 (some .boolean) :: lw_g
def e_Mo_isWithin : en_T := ([(2, 0, 0, [150]), (0, -1, 7, []), (0, -1, 7, [])], some (0, 0, 1, []), true, 6, 0, 0, [], [], (0, [], [], [], []))
abbrev b_Mo_line : ByteArray := prog_15_method_126_code
def y_Mo_line : MethodName := ⟨"DrawingHouseModel", "line", "(II)V"⟩
abbrev z_Mo_line : List Cond := Cond.code y_Mo_line b_Mo_line 3 none :: lw_g
def e_Mo_line : en_T := ([(2, 0, 0, [150]), (0, 0, 75, []), (0, 0, 75, [])], none, false, 6, 0, 0, [], [], (161759680002903838768002090522117784041822866535243434886621661495296, [(13, 107)], [(20, [0, 3], [30, 0, 1, 1, 107, -1, 0, 0])], [(20, [0, 3], [30, 1, 1, 1, 107, -1, 0, 0])], [(0, 0, 129, [])]))
abbrev b_Mo_longOf : ByteArray := prog_15_method_20_code
def y_Mo_longOf : MethodName := ⟨"DrawingHouseModel", "longOf", "(I)I"⟩
abbrev z_Mo_longOf : List Cond := Cond.code y_Mo_longOf b_Mo_longOf 2 (some .int) :: lw_g
def e_Mo_longOf : en_T := ([(2, 0, 0, [150]), (0, 0, 23, [])], some (0, 0, 8, []), true, 6, 0, 0, [([(2, 0, 0, [150]), (0, 0, 23, []), (0, 0, 8, [])], [], [2], [], [], [])], [], (0, [], [], [], []))
abbrev b_Mo_low : ByteArray := prog_15_method_152_code
def y_Mo_low : MethodName := ⟨"DrawingHouseModel", "low", "(I)I"⟩
abbrev z_Mo_low : List Cond := Cond.code y_Mo_low b_Mo_low 2 (some .int) :: lw_g
def e_Mo_low : en_T := ([(2, 0, 0, [150]), (0, 0, 79, [])], some (0, 0, 24, []), true, 6, 0, 0, [([(2, 0, 0, [150]), (0, 0, 79, []), (0, 0, 24, [])], [], [2], [], [], [])], [], (0, [], [], [], []))
abbrev b_Mo_max : ByteArray := prog_15_method_4_code
def y_Mo_max : MethodName := ⟨"DrawingHouseModel", "max", "(II)I"⟩
abbrev z_Mo_max : List Cond := Cond.code y_Mo_max b_Mo_max 2 (some .int) :: lw_g
def e_Mo_max : en_T := ([(0, -2147483648, 2147483647, []), (0, -2147483648, 2147483647, [])], some (0, -2147483648, 2147483647, []), true, 6, 0, 0, [([(0, -2147483648, 2147483647, []), (0, -2147483648, 2147483647, [])], [], [1], [], [(0, 1, -1000000000000, 0)], []), ([(0, -2147483647, 2147483647, []), (0, -2147483648, 2147483646, [])], [], [0], [], [(0, 1, 1, 1000000000000)], [])], [], (0, [], [], [(7, [0, 2], [5]), (7, [1, 2], [5])], []))
abbrev b_Mo_mayGo : ByteArray := prog_15_method_72_code
def y_Mo_mayGo : MethodName := ⟨"DrawingHouseModel", "mayGo", "(I)Z"⟩
abbrev z_Mo_mayGo : List Cond := Cond.code y_Mo_mayGo b_Mo_mayGo 2 (some .boolean) :: lw_g
def e_Mo_mayGo : en_T := ([(2, 0, 0, [150]), (0, 0, 79, [])], some (0, 0, 1, []), true, 6, 0, 0, [([(2, 0, 0, [150]), (0, 0, 79, []), (0, 0, 0, [])], [], [2], [], [], []), ([(2, 0, 0, [150]), (0, 0, 79, []), (0, 1, 1, [])], [], [2], [], [], [])], [], (0, [], [], [], []))
abbrev b_Mo_min : ByteArray := prog_15_method_5_code
def y_Mo_min : MethodName := ⟨"DrawingHouseModel", "min", "(II)I"⟩
abbrev z_Mo_min : List Cond := Cond.code y_Mo_min b_Mo_min 2 (some .int) :: lw_g
def e_Mo_min : en_T := ([(0, -2147483648, 2147483647, []), (0, -2147483648, 2147483647, [])], some (0, -2147483648, 2147483647, []), true, 6, 0, 0, [([(0, -2147483648, 2147483647, []), (0, -2147483648, 2147483647, [])], [], [1], [], [(0, 1, 0, 1000000000000)], []), ([(0, -2147483648, 2147483646, []), (0, -2147483647, 2147483647, [])], [], [0], [], [(0, 1, -1000000000000, -1)], [])], [], (0, [], [], [(7, [2, 0], [5]), (7, [2, 1], [5])], []))
abbrev b_Mo_missing : ByteArray := prog_15_method_69_code
def y_Mo_missing : MethodName := ⟨"DrawingHouseModel", "missing", "()Z"⟩
abbrev z_Mo_missing : List Cond := Cond.code y_Mo_missing b_Mo_missing 2 (some .boolean) :: lw_g
def e_Mo_missing : en_T := ([(2, 0, 0, [150])], some (0, 0, 1, []), true, 6, 0, 0, [], [], (0, [], [], [], []))
abbrev b_Mo_move : ByteArray := prog_15_method_150_code
def y_Mo_move : MethodName := ⟨"DrawingHouseModel", "move", "(II)V"⟩
abbrev z_Mo_move : List Cond := Cond.code y_Mo_move b_Mo_move 4 none :: lw_g
def e_Mo_move : en_T := ([(2, 0, 0, [150]), (0, 0, 33554431, []), (0, 1, 2, [])], none, false, 6, 0, 0, [], [], (803469022129495137770981046170581301261101496891396417650688, [], [], [], []))
abbrev b_Mo_newLine : ByteArray := prog_15_method_142_code
def y_Mo_newLine : MethodName := ⟨"DrawingHouseModel", "newLine", "(II)I"⟩
abbrev z_Mo_newLine : List Cond := Cond.code y_Mo_newLine b_Mo_newLine 3 (some .int) :: lw_g
def e_Mo_newLine : en_T := ([(2, 0, 0, [150]), (0, 0, 24, []), (0, -1, 24, [])], some (0, 0, 79, []), false, 6, 0, 0, [([(2, 0, 0, [150]), (0, 0, 24, []), (0, -1, 24, []), (0, 0, 79, []), (0, 0, 79, []), (0, 1, 80, [])], [], [4], [((0, 32), 5)], [(4, 5, -1, -1), (4, 3, 0, 0), (5, 3, 1, 1)], [])], [((0, 32), (0, 0, 80, []))], (327376366762122253677625402528447396402928889626624, [(13, 32)], [], [], []))
abbrev b_Mo_nodes : ByteArray := prog_15_method_11_code
def y_Mo_nodes : MethodName := ⟨"DrawingHouseModel", "nodes", "()I"⟩
abbrev z_Mo_nodes : List Cond := Cond.code y_Mo_nodes b_Mo_nodes 1 (some .int) :: lw_g
def e_Mo_nodes : en_T := ([(2, 0, 0, [150])], some (0, 0, 24, []), true, 6, 0, 0, [([(2, 0, 0, [150]), (0, 0, 24, [])], [], [1], [], [], [])], [], (0, [], [], [(20, [1, 0], [30, 0, 1, 0, 0, -1, 3, 2005000]), (20, [1, 0], [30, 0, -1, 0, 0, 1, 3, 2005000])], []))
abbrev b_Mo_one : ByteArray := prog_15_method_17_code
def y_Mo_one : MethodName := ⟨"DrawingHouseModel", "one", "(I)I"⟩
abbrev z_Mo_one : List Cond := Cond.code y_Mo_one b_Mo_one 2 (some .int) :: lw_g
def e_Mo_one : en_T := ([(2, 0, 0, [150]), (0, 0, 47, [])], some (0, 0, 1, []), true, 6, 0, 0, [([(2, 0, 0, [150]), (0, 0, 47, []), (0, 0, 1, [])], [], [2], [], [], [])], [], (0, [], [], [], []))
abbrev b_Mo_placeIn : ByteArray := prog_15_method_118_code
def y_Mo_placeIn : MethodName := ⟨"DrawingHouseModel", "placeIn", "(I)I"⟩
abbrev z_Mo_placeIn : List Cond := Cond.code y_Mo_placeIn b_Mo_placeIn 3 (some .int) :: lw_g
def e_Mo_placeIn : en_T := ([(2, 0, 0, [150]), (0, 0, 23, [])], some (0, 0, 26, []), true, 6, 0, 0, [], [], (0, [], [], [], []))
abbrev b_Mo_placeOf : ByteArray := prog_15_method_128_code
def y_Mo_placeOf : MethodName := ⟨"DrawingHouseModel", "placeOf", "(I)I"⟩
abbrev z_Mo_placeOf : List Cond := Cond.code y_Mo_placeOf b_Mo_placeOf 4 (some .int) :: lw_g
def e_Mo_placeOf : en_T := ([(2, 0, 0, [150]), (0, 0, 75, [])], some (0, -2147483648, 2147483647, []), true, 6, 0, 0, [], [], (0, [], [], [], []))
abbrev b_Mo_pointsOf : ByteArray := prog_15_method_183_code
def y_Mo_pointsOf : MethodName := ⟨"DrawingHouseModel", "pointsOf", "(I)I"⟩
abbrev z_Mo_pointsOf : List Cond := Cond.code y_Mo_pointsOf b_Mo_pointsOf 2 (some .int) :: lw_g
def e_Mo_pointsOf : en_T := ([(2, 0, 0, [150]), (0, 0, 47, [])], some (0, 2, 26, []), true, 6, 0, 0, [([(2, 0, 0, [150]), (0, 0, 47, []), (0, 2, 26, [])], [], [2], [], [], [])], [], (0, [], [], [(20, [2, 0, 1], [50, 1, 1, 1139, 1064, 1, 2, 1, 0, 4, 14, 3, 1, 64, 4, 7, 6, 2, 0, 48, 2, 1, 139, 1, 2, 0, 2])], []))
abbrev b_Mo_putAt : ByteArray := prog_15_method_141_code
def y_Mo_putAt : MethodName := ⟨"DrawingHouseModel", "putAt", "(III)V"⟩
abbrev z_Mo_putAt : List Cond := Cond.code y_Mo_putAt b_Mo_putAt 5 none :: lw_g
def e_Mo_putAt : en_T := ([(2, 0, 0, [150]), (0, 0, 24, []), (0, 0, 79, []), (0, 0, 79, [])], none, false, 6, 0, 0, [], [], (1122433257470133441180429951526105359095756193005568, [], [(20, [0, 1, 4], [30, 0, 1, 2, 36, -1, 0, 0])], [(20, [0, 1, 4], [30, 1, 1, 2, 36, -1, 0, 0])], [(0, 0, 79, [])]))
abbrev b_Mo_px : ByteArray := prog_15_method_181_code
def y_Mo_px : MethodName := ⟨"DrawingHouseModel", "px", "(I)I"⟩
abbrev z_Mo_px : List Cond := Cond.code y_Mo_px b_Mo_px 2 (some .int) :: lw_g
def e_Mo_px : en_T := ([(2, 0, 0, [150]), (0, 0, 23, [])], some (0, -2147483648, 2147483647, []), true, 6, 0, 0, [([(2, 0, 0, [150]), (0, 0, 23, []), (0, -2147483648, 2147483647, [])], [], [2], [], [], [])], [], (0, [], [], [], []))
abbrev b_Mo_py : ByteArray := prog_15_method_182_code
def y_Mo_py : MethodName := ⟨"DrawingHouseModel", "py", "(I)I"⟩
abbrev z_Mo_py : List Cond := Cond.code y_Mo_py b_Mo_py 2 (some .int) :: lw_g
def e_Mo_py : en_T := ([(2, 0, 0, [150]), (0, 0, 23, [])], some (0, -2147483648, 2147483647, []), true, 6, 0, 0, [([(2, 0, 0, [150]), (0, 0, 23, []), (0, -2147483648, 2147483647, [])], [], [2], [], [], [])], [], (0, [], [], [], []))
abbrev b_Mo_rowOf : ByteArray := prog_15_method_7_code
def y_Mo_rowOf : MethodName := ⟨"DrawingHouseModel", "rowOf", "(II)I"⟩
abbrev z_Mo_rowOf : List Cond := Cond.code y_Mo_rowOf b_Mo_rowOf 2 (some .int) :: lw_g
def e_Mo_rowOf : en_T := ([(0, 0, 3, []), (0, 0, 30, [])], some (5, 0, 66297, [539]), true, 6, 0, 0, [([(0, 0, 3, []), (0, 0, 30, []), (0, 0, 66297, [])], [], [2], [], [], [(2, 539)])], [], (0, [], [], [(23, [2, 0, 1], [0, 1, -16709, -539]), (23, [2, 0, 1], [0, -1, 16709, 539])], []))
abbrev b_Mo_rowPlace : ByteArray := prog_15_method_157_code
def y_Mo_rowPlace : MethodName := ⟨"DrawingHouseModel", "rowPlace", "(I)I"⟩
abbrev z_Mo_rowPlace : List Cond := Cond.code y_Mo_rowPlace b_Mo_rowPlace 3 (some .int) :: lw_g
def e_Mo_rowPlace : en_T := ([(2, 0, 0, [150]), (0, 0, 24, [])], some (0, 0, 99, []), true, 6, 0, 0, [], [], (0, [], [(20, [0, 1], [50, 0, 1, 117, 6, 2, 0, 100, 1, 5, 3, 0, 117, 7, 0, 1, 1])], [], []))
abbrev b_Mo_setBox : ByteArray := prog_15_method_166_code
def y_Mo_setBox : MethodName := ⟨"DrawingHouseModel", "setBox", "(IIZIIII)V"⟩
abbrev z_Mo_setBox : List Cond := Cond.code y_Mo_setBox b_Mo_setBox 10 none :: lw_g
def e_Mo_setBox : en_T := ([(2, 0, 0, [150]), (0, 0, 3, []), (0, 0, 99, []), (0, 0, 1, []), (0, -2147483648, 2147483647, []), (0, -2147483648, 2147483647, []), (0, -2147483648, 2147483647, []), (0, -2147483648, 2147483647, [])], none, false, 6, 0, 0, [], [], (301300883298560676664117892313967987972913061334273656619008, [], [], [], []))
abbrev b_Mo_shareNew : ByteArray := prog_15_method_76_code
def y_Mo_shareNew : MethodName := ⟨"DrawingHouseModel", "shareNew", "(II)Z"⟩
abbrev z_Mo_shareNew : List Cond := Cond.code y_Mo_shareNew b_Mo_shareNew 5 (some .boolean) :: lw_g
def e_Mo_shareNew : en_T := ([(2, 0, 0, [150]), (0, 0, 79, []), (0, 0, 79, [])], some (0, 0, 1, []), true, 6, 0, 0, [], [], (0, [], [], [], []))
abbrev b_Mo_sign : ByteArray := prog_15_method_31_code
def y_Mo_sign : MethodName := ⟨"DrawingHouseModel", "sign", "(I)Z"⟩
abbrev z_Mo_sign : List Cond := Cond.code y_Mo_sign b_Mo_sign 2 (some .boolean) :: lw_g
def e_Mo_sign : en_T := ([(2, 0, 0, [150]), (0, 45, 125, [])], some (0, 0, 1, []), true, 6, 0, 0, [([(2, 0, 0, [150]), (0, 45, 125, []), (0, 0, 0, [])], [], [2], [], [], []), ([(2, 0, 0, [150]), (0, 45, 125, []), (0, 1, 1, [])], [], [2], [], [], [])], [], (0, [], [], [(20, [2, 0], [50, 2, 0, 1012, 1008, 4, 6, 1, 2, 1, 0, 0, 1, 2, 7, 1, 3, 2, 1, 12, 0, 3, 1, 3, 2, 1, 8, 0, 0])], []))
abbrev b_Mo_signOf : ByteArray := prog_15_method_199_code
def y_Mo_signOf : MethodName := ⟨"DrawingHouseModel", "signOf", "(J)I"⟩
abbrev z_Mo_signOf : List Cond := Cond.code y_Mo_signOf b_Mo_signOf 2 (some .int) :: lw_g
def e_Mo_signOf : en_T := ([(1, -9223372036854775808, 9223372036854775807, [])], some (0, -1, 1, []), true, 6, 0, 0, [([(1, 0, 0, []), (0, 0, 0, [])], [], [1], [], [], []), ([(1, -9223372036854775808, -1, []), (0, -1, -1, [])], [], [1], [], [], []), ([(1, 1, 9223372036854775807, []), (0, 1, 1, [])], [], [1], [], [], [])], [], (0, [], [], [], []))
abbrev b_Mo_size : ByteArray := prog_15_method_18_code
def y_Mo_size : MethodName := ⟨"DrawingHouseModel", "size", "(I)I"⟩
abbrev z_Mo_size : List Cond := Cond.code y_Mo_size b_Mo_size 2 (some .int) :: lw_g
def e_Mo_size : en_T := ([(2, 0, 0, [150]), (0, 0, 23, [])], some (0, 0, 99, []), true, 6, 0, 0, [([(2, 0, 0, [150]), (0, 0, 23, []), (0, 0, 99, [])], [], [2], [], [], [])], [], (0, [], [], [], []))
abbrev b_Mo_styleSign : ByteArray := prog_15_method_214_code
def y_Mo_styleSign : MethodName := ⟨"DrawingHouseModel", "styleSign", "(I)Z"⟩
abbrev z_Mo_styleSign : List Cond := Cond.code y_Mo_styleSign b_Mo_styleSign 2 (some .boolean) :: lw_g
def e_Mo_styleSign : en_T := ([(2, 0, 0, [150]), (0, 40, 125, [])], some (0, 0, 1, []), true, 6, 0, 0, [([(2, 0, 0, [150]), (0, 40, 125, []), (0, 0, 0, [])], [], [2], [], [], []), ([(2, 0, 0, [150]), (0, 40, 125, []), (0, 1, 1, [])], [], [2], [], [], [])], [], (0, [], [], [(20, [2, 0], [50, 1, 1, 1158, 1160, 4, 6, 1, 2, 1, 0, 0, 1, 1, 6, 3, 1, 160, 2, 1, 158, 0, 3])], []))
abbrev b_Mo_tail : ByteArray := prog_15_method_14_code
def y_Mo_tail : MethodName := ⟨"DrawingHouseModel", "tail", "(I)I"⟩
abbrev z_Mo_tail : List Cond := Cond.code y_Mo_tail b_Mo_tail 2 (some .int) :: lw_g
def e_Mo_tail : en_T := ([(2, 0, 0, [150]), (0, 0, 47, [])], some (0, 0, 23, []), true, 6, 0, 0, [([(2, 0, 0, [150]), (0, 0, 47, []), (0, 0, 23, [])], [], [2], [], [], [])], [], (0, [], [], [(20, [2, 0, 1], [50, 1, 1, 1005, 1002, 1, 2, 1, 0, 3, 1, 2, 4, 7, 4, 3, 2, 1, 5, 0, 267, 1, 2])], []))
abbrev b_Mo_toOf : ByteArray := prog_15_method_88_code
def y_Mo_toOf : MethodName := ⟨"DrawingHouseModel", "toOf", "(I)I"⟩
abbrev z_Mo_toOf : List Cond := Cond.code y_Mo_toOf b_Mo_toOf 2 (some .int) :: lw_g
def e_Mo_toOf : en_T := ([(2, 0, 0, [150]), (0, 0, 159, [])], some (0, 0, 24, []), true, 6, 0, 0, [([(2, 0, 0, [150]), (0, 0, 159, []), (0, 0, 24, [])], [], [2], [], [], [])], [], (0, [], [], [], []))
abbrev b_Mo_turnOf : ByteArray := prog_15_method_198_code
def y_Mo_turnOf : MethodName := ⟨"DrawingHouseModel", "turnOf", "(JJJJJJ)J"⟩
abbrev z_Mo_turnOf : List Cond := Cond.code y_Mo_turnOf b_Mo_turnOf 12 (some .long) :: lw_g
def e_Mo_turnOf : en_T := ([(1, -2147483648, 2147483647, []), (1, -2147483648, 2147483647, []), (1, -2147483648, 2147483647, []), (1, -2147483648, 2147483647, []), (1, -2147483648, 2147483647, []), (1, -2147483648, 2147483647, [])], some (1, -9223372036854775808, 9223372036854775807, []), true, 6, 0, 0, [([(1, -2147483648, 2147483647, []), (1, -2147483648, 2147483647, []), (1, -2147483648, 2147483647, []), (1, -2147483648, 2147483647, []), (1, -2147483648, 2147483647, []), (1, -2147483648, 2147483647, []), (1, -9223372036854775808, 9223372036854775807, [])], [], [6], [], [], [])], [], (0, [], [], [], []))
abbrev b_Mo_weight : ByteArray := prog_15_method_16_code
def y_Mo_weight : MethodName := ⟨"DrawingHouseModel", "weight", "(I)I"⟩
abbrev z_Mo_weight : List Cond := Cond.code y_Mo_weight b_Mo_weight 2 (some .int) :: lw_g
def e_Mo_weight : en_T := ([(2, 0, 0, [150]), (0, 0, 47, [])], some (0, 0, 9, []), true, 6, 0, 0, [([(2, 0, 0, [150]), (0, 0, 47, []), (0, 0, 9, [])], [], [2], [], [], [])], [], (0, [], [], [], []))
abbrev b_Mo_write1 : ByteArray := prog_15_method_232_code
def y_Mo_write1 : MethodName := ⟨"DrawingHouseModel", "write", "(I)V"⟩
abbrev z_Mo_write1 : List Cond := Cond.code y_Mo_write1 b_Mo_write1 2 none :: lw_g
def e_Mo_write1 : en_T := ([(2, 0, 0, [150]), (0, -2147483648, 2147483647, [])], none, false, 6, 0, 0, [], [], (237142198758023568227473377297792835283496928595231875152809132048206089502588928, [(13, 170)], [(20, [0, 2], [30, 0, 1, 1, 170, -1, 0, 0])], [(20, [0, 2], [30, 1, 1, 1, 170, -1, 0, 0])], [(0, 0, 99999999, [])]))
abbrev b_Mo_wrong : ByteArray := prog_15_method_30_code
def y_Mo_wrong : MethodName := ⟨"DrawingHouseModel", "wrong", "(II)V"⟩
abbrev z_Mo_wrong : List Cond := Cond.code y_Mo_wrong b_Mo_wrong 3 none :: lw_g
def e_Mo_wrong : en_T := ([(2, 0, 0, [150]), (0, 1, 5, []), (0, 0, 2000, [])], none, false, 6, 0, 0, [], [], (0, [(13, 8), (13, 9)], [], [(20, [0], [30, -1, -1, 1, 8])], []))
abbrev b_Ho_feed : ByteArray := prog_1_method_2_code
def y_Ho_feed : MethodName := ⟨"DrawingHouse", "feed", "(IIIII)I"⟩
abbrev z_Ho_feed : List Cond := Cond.code y_Ho_feed b_Ho_feed 6 (some .int) :: lw_g
def e_Ho_feed : en_T := ([(2, 0, 0, [12]), (0, -2147483648, 2147483647, []), (0, -2147483648, 2147483647, []), (0, -2147483648, 2147483647, []), (0, -2147483648, 2147483647, []), (0, -2147483648, 2147483647, [])], some (0, -1, 2000, []), false, 7, 0, 0, [], [], (649037107316853453566312041152512, [(8, 1)], [], [], []))
abbrev b_Ho_hasDrawing : ByteArray := prog_1_method_31_code
def y_Ho_hasDrawing : MethodName := ⟨"DrawingHouse", "hasDrawing", "(I)Z"⟩
abbrev z_Ho_hasDrawing : List Cond := Cond.code y_Ho_hasDrawing b_Ho_hasDrawing 2 (some .boolean) :: lw_g
def e_Ho_hasDrawing : en_T := ([(2, 0, 0, [12]), (0, -2147483648, 2147483647, [])], some (0, 0, 1, []), true, 7, 0, 0, [([(2, 0, 0, [12]), (0, -2147483648, -1, []), (0, 0, 0, [])], [], [2], [], [], []), ([(2, 0, 0, [12]), (0, 4, 2147483647, []), (0, 0, 0, [])], [], [2], [], [], []), ([(2, 0, 0, [12]), (0, 0, 3, []), (0, 0, 0, [])], [], [2], [], [], []), ([(2, 0, 0, [12]), (0, 0, 3, []), (0, 1, 1, [])], [], [2], [], [], [])], [], (0, [], [], [], []))
abbrev b_Ho_writeName_at_GrgroupName : ByteArray := prog_1_method_40_code
def y_Ho_writeName_at_GrgroupName : MethodName := ⟨"DrawingHouse", "writeName", "([BII)V"⟩
abbrev z_Ho_writeName_at_GrgroupName : List Cond := Cond.code y_Ho_writeName_at_GrgroupName b_Ho_writeName_at_GrgroupName 5 none :: lw_g
def e_Ho_writeName_at_GrgroupName : en_T := ([(2, 0, 0, [12]), (2, 0, 0, [57]), (0, 1, 7, []), (0, 0, 8, [])], none, false, 7, 0, 0, [], [], (261336857795280739939871698507597986398208, [(12, 12)], [(20, [0, 4], [30, 0, 1, 1, 12, -1, 0, 0])], [(20, [0, 4], [30, 8, 1, 1, 12, -1, 0, 0])], [(0, 0, 99999992, [])]))
abbrev b_Ho_writeName_at_Grname : ByteArray := prog_1_method_40_code
def y_Ho_writeName_at_Grname : MethodName := ⟨"DrawingHouse", "writeName", "([BII)V"⟩
abbrev z_Ho_writeName_at_Grname : List Cond := Cond.code y_Ho_writeName_at_Grname b_Ho_writeName_at_Grname 5 none :: lw_g
def e_Ho_writeName_at_Grname : en_T := ([(2, 0, 0, [12]), (2, 0, 0, [48]), (0, 0, 23, []), (0, 0, 8, [])], none, false, 7, 0, 0, [], [], (261336857795280739939871698507597986398208, [(12, 12)], [(20, [0, 4], [30, 0, 1, 1, 12, -1, 0, 0])], [(20, [0, 4], [30, 8, 1, 1, 12, -1, 0, 0])], [(0, 0, 99999992, [])]))
abbrev b_Dr_countUpward : ByteArray := prog_2_method_30_code
def y_Dr_countUpward : MethodName := ⟨"DrawingHouse$Drawing", "countUpward", "()J"⟩
abbrev z_Dr_countUpward : List Cond := Cond.code y_Dr_countUpward b_Dr_countUpward 6 (some .long) :: lw_g
def e_Dr_countUpward : en_T := ([(2, 0, 0, [0])], some (1, -9223372036854775808, 9223372036854775807, []), true, 7, 0, 0, [], [], (0, [], [], [], []))
abbrev b_Dr_dropBends : ByteArray := prog_2_method_3_code
def y_Dr_dropBends : MethodName := ⟨"DrawingHouse$Drawing", "dropBends", "()V"⟩
abbrev z_Dr_dropBends : List Cond := Cond.code y_Dr_dropBends b_Dr_dropBends 1 none :: lw_g
def e_Dr_dropBends : en_T := ([(2, 0, 0, [0])], none, false, 6, 0, 0, [], [], (65536, [], [], [], []))
abbrev b_Dr_scaledX : ByteArray := prog_2_method_18_code
def y_Dr_scaledX : MethodName := ⟨"DrawingHouse$Drawing", "scaledX", "(II)I"⟩
abbrev z_Dr_scaledX : List Cond := Cond.code y_Dr_scaledX b_Dr_scaledX 3 (some .int) :: lw_g
def e_Dr_scaledX : en_T := ([(2, 0, 0, [0]), (0, -2147483648, 2147483647, []), (0, 0, 64, [])], some (0, -2147483648, 2147483647, []), true, 6, 0, 0, [([(2, 0, 0, [0]), (0, -2147483648, 2147483647, []), (0, 0, 64, []), (0, -2147483648, 2147483647, [])], [], [3], [], [], [])], [], (0, [], [], [], []))
abbrev b_Dr_scaledY : ByteArray := prog_2_method_19_code
def y_Dr_scaledY : MethodName := ⟨"DrawingHouse$Drawing", "scaledY", "(II)I"⟩
abbrev z_Dr_scaledY : List Cond := Cond.code y_Dr_scaledY b_Dr_scaledY 3 (some .int) :: lw_g
def e_Dr_scaledY : en_T := ([(2, 0, 0, [0]), (0, -2147483648, 2147483647, []), (0, 0, 64, [])], some (0, -2147483648, 2147483647, []), true, 6, 0, 0, [([(2, 0, 0, [0]), (0, -2147483648, 2147483647, []), (0, 0, 64, []), (0, -2147483648, 2147483647, [])], [], [3], [], [], [])], [], (0, [], [], [], []))
abbrev b_Dr_wipe : ByteArray := prog_2_method_2_code
def y_Dr_wipe : MethodName := ⟨"DrawingHouse$Drawing", "wipe", "()V"⟩
abbrev z_Dr_wipe : List Cond := Cond.code y_Dr_wipe b_Dr_wipe 1 none :: lw_g
def e_Dr_wipe : en_T := ([(2, 0, 0, [0])], none, false, 6, 0, 0, [], [], (8388608, [(0, 1)], [], [], []))
abbrev b_Em_drawWay : ByteArray := prog_3_method_8_code
def y_Em_drawWay : MethodName := ⟨"DrawingHouse$Embedder", "drawWay", "()V"⟩
abbrev z_Em_drawWay : List Cond := Cond.code y_Em_drawWay b_Em_drawWay 3 none :: lw_g
def e_Em_drawWay : en_T := ([(2, 0, 0, [1])], none, false, 7, 0, 0, [], [((0, 0), (2, 0, 0, [5, 149]))], (134217728, [], [], [], []))
abbrev b_Fa_learnBlocksAt : ByteArray := prog_4_method_13_code
def y_Fa_learnBlocksAt : MethodName := ⟨"DrawingHouse$Facts", "learnBlocksAt", "(LDrawingHouse$Graph;)V"⟩
abbrev z_Fa_learnBlocksAt : List Cond := Cond.code y_Fa_learnBlocksAt b_Fa_learnBlocksAt 6 none :: lw_g
def e_Fa_learnBlocksAt : en_T := ([(2, 0, 0, [2]), (2, 0, 0, [3])], none, false, 6, 0, 0, [], [], (2473901162496, [], [], [], []))
abbrev b_Fa_lowest : ByteArray := prog_4_method_5_code
def y_Fa_lowest : MethodName := ⟨"DrawingHouse$Facts", "lowest", "(I)I"⟩
abbrev z_Fa_lowest : List Cond := Cond.code y_Fa_lowest b_Fa_lowest 1 (some .int) :: lw_g
def e_Fa_lowest : en_T := ([(0, 0, 33554431, [])], some (0, 0, 63, []), true, 6, 0, 0, [([(0, 0, 33554431, []), (0, 0, 63, [])], [], [1], [], [], [])], [], (0, [], [], [], []))
abbrev b_Fa_numberStrong : ByteArray := prog_4_method_15_code
def y_Fa_numberStrong : MethodName := ⟨"DrawingHouse$Facts", "numberStrong", "(I[I)I"⟩
abbrev z_Fa_numberStrong : List Cond := Cond.code y_Fa_numberStrong b_Fa_numberStrong 6 (some .int) :: lw_g
def e_Fa_numberStrong : en_T := ([(2, 0, 0, [2]), (0, 0, 24, []), (2, 0, 0, [39, 44])], some (0, 0, 24, []), false, 6, 0, 0, [], [], (26938034880512, [], [], [], []))
abbrev b_Fa_peel : ByteArray := prog_4_method_17_code
def y_Fa_peel : MethodName := ⟨"DrawingHouse$Facts", "peel", "(LDrawingHouse$Graph;II)I"⟩
abbrev z_Fa_peel : List Cond := Cond.code y_Fa_peel b_Fa_peel 6 (some .int) :: lw_g
def e_Fa_peel : en_T := ([(2, 0, 0, [2]), (2, 0, 0, [3]), (0, 0, 16777215, []), (0, 0, 23, [])], some (0, 0, 16777215, []), false, 6, 0, 0, [], [], (1099511627776, [], [], [], []))
abbrev b_Fa_pickLast : ByteArray := prog_4_method_25_code
def y_Fa_pickLast : MethodName := ⟨"DrawingHouse$Facts", "pickLast", "(LDrawingHouse$Graph;II)I"⟩
abbrev z_Fa_pickLast : List Cond := Cond.code y_Fa_pickLast b_Fa_pickLast 6 (some .int) :: lw_g
def e_Fa_pickLast : en_T := ([(2, 0, 0, [2]), (2, 0, 0, [3]), (0, 0, 16777215, []), (0, 8, 24, [])], some (0, -1, 23, []), true, 7, 0, 0, [], [], (0, [], [], [], []))
abbrev b_Fa_spread_at_Grnear : ByteArray := prog_4_method_3_code
def y_Fa_spread_at_Grnear : MethodName := ⟨"DrawingHouse$Facts", "spread", "([IIII)I"⟩
abbrev z_Fa_spread_at_Grnear : List Cond := Cond.code y_Fa_spread_at_Grnear b_Fa_spread_at_Grnear 7 (some .int) :: lw_g
def e_Fa_spread_at_Grnear : en_T := ([(2, 0, 0, [59]), (0, 1, 24, []), (0, 1, 8388608, []), (0, -1, 16777215, [])], some (0, 0, 16777215, []), true, 7, 0, 0, [], [], (0, [], [], [], []))
abbrev b_Fa_spread_at_Nenear : ByteArray := prog_4_method_3_code
def y_Fa_spread_at_Nenear : MethodName := ⟨"DrawingHouse$Facts", "spread", "([IIII)I"⟩
abbrev z_Fa_spread_at_Nenear : List Cond := Cond.code y_Fa_spread_at_Nenear b_Fa_spread_at_Nenear 7 (some .int) :: lw_g
def e_Fa_spread_at_Nenear : en_T := ([(2, 0, 0, [82]), (0, 1, 24, []), (0, 1, 8388608, []), (0, 0, 16777215, [])], some (0, 0, 16777215, []), true, 7, 0, 0, [], [], (0, [], [], [], []))
abbrev b_Fa_spread_at_Nenear_Npnear : ByteArray := prog_4_method_3_code
def y_Fa_spread_at_Nenear_Npnear : MethodName := ⟨"DrawingHouse$Facts", "spread", "([IIII)I"⟩
abbrev z_Fa_spread_at_Nenear_Npnear : List Cond := Cond.code y_Fa_spread_at_Nenear_Npnear b_Fa_spread_at_Nenear_Npnear 7 (some .int) :: lw_g
def e_Fa_spread_at_Nenear_Npnear : en_T := ([(2, 0, 0, [82, 142]), (0, 0, 25, []), (0, 0, 33554431, []), (0, 0, 33554431, [])], some (0, 0, 33554431, []), true, 7, 0, 0, [], [], (0, [], [], [], []))
abbrev b_Fa_weightOf : ByteArray := prog_4_method_20_code
def y_Fa_weightOf : MethodName := ⟨"DrawingHouse$Facts", "weightOf", "(LDrawingHouse$Graph;II)I"⟩
abbrev z_Fa_weightOf : List Cond := Cond.code y_Fa_weightOf b_Fa_weightOf 4 (some .int) :: lw_g
def e_Fa_weightOf : en_T := ([(2, 0, 0, [3]), (0, 0, 23, []), (0, 0, 23, [])], some (0, 0, 9, []), true, 7, 0, 0, [([(2, 0, 0, [3]), (0, 0, 23, []), (0, 0, 23, []), (0, 0, 0, [])], [], [3], [], [], []), ([(2, 0, 0, [3]), (0, 0, 23, []), (0, 0, 23, []), (0, 0, 9, [])], [], [3], [], [], [])], [], (0, [], [], [], []))
abbrev b_Gr_addEdge : ByteArray := prog_5_method_15_code
def y_Gr_addEdge : MethodName := ⟨"DrawingHouse$Graph", "addEdge", "(III)I"⟩
abbrev z_Gr_addEdge : List Cond := Cond.code y_Gr_addEdge b_Gr_addEdge 5 (some .int) :: lw_g
def e_Gr_addEdge : en_T := ([(2, 0, 0, [3]), (0, 0, 23, []), (0, 0, 23, []), (0, 0, 1, [])], some (0, 0, 47, []), false, 7, 0, 0, [([(2, 0, 0, [3]), (0, 0, 23, []), (0, 0, 23, []), (0, 0, 1, []), (0, 0, 47, []), (0, 1, 48, [])], [], [4], [((0, 1), 5)], [(5, 4, 1, 1)], [])], [((0, 1), (0, 0, 47, []))], (1796936251320827904, [(3, 1)], [], [], []))
abbrev b_Gr_addNode_at_Retape : ByteArray := prog_5_method_14_code
def y_Gr_addNode_at_Retape : MethodName := ⟨"DrawingHouse$Graph", "addNode", "([BIII)I"⟩
abbrev z_Gr_addNode_at_Retape : List Cond := Cond.code y_Gr_addNode_at_Retape b_Gr_addNode_at_Retape 6 (some .int) :: lw_g
def e_Gr_addNode_at_Retape : en_T := ([(2, 0, 0, [3]), (2, 0, 0, [109]), (0, 0, 2000, []), (0, 0, 8, []), (0, 0, 7, [])], some (0, 0, 23, []), false, 6, 0, 0, [([(2, 0, 0, [3]), (2, 0, 0, [109]), (0, 0, 2000, []), (0, 0, 8, []), (0, 0, 7, []), (0, 0, 23, []), (0, 1, 24, [])], [], [5], [((0, 0), 6)], [(6, 5, 1, 1)], [])], [((0, 0), (0, 0, 23, []))], (580682876954083328, [(3, 0)], [(21, [2, 3], [2000])], [], []))
abbrev b_Gr_addNode_at_newGrperform45 : ByteArray := prog_5_method_14_code
def y_Gr_addNode_at_newGrperform45 : MethodName := ⟨"DrawingHouse$Graph", "addNode", "([BIII)I"⟩
abbrev z_Gr_addNode_at_newGrperform45 : List Cond := Cond.code y_Gr_addNode_at_newGrperform45 b_Gr_addNode_at_newGrperform45 6 (some .int) :: lw_g
def e_Gr_addNode_at_newGrperform45 : en_T := ([(2, 0, 0, [3]), (2, 0, 0, [271]), (0, 0, 2000, []), (0, 0, 8, []), (0, 0, 7, [])], some (0, 0, 23, []), false, 6, 0, 0, [([(2, 0, 0, [3]), (2, 0, 0, [271]), (0, 0, 2000, []), (0, 0, 8, []), (0, 0, 7, []), (0, 0, 23, []), (0, 1, 24, [])], [], [5], [((0, 0), 6)], [(6, 5, 1, 1)], [])], [((0, 0), (0, 0, 23, []))], (580682876954083328, [(3, 0)], [(21, [2, 3], [3])], [], []))
abbrev b_Gr_clear : ByteArray := prog_5_method_2_code
def y_Gr_clear : MethodName := ⟨"DrawingHouse$Graph", "clear", "()V"⟩
abbrev z_Gr_clear : List Cond := Cond.code y_Gr_clear b_Gr_clear 1 none :: lw_g
def e_Gr_clear : en_T := ([(2, 0, 0, [3])], none, false, 6, 0, 0, [], [], (1729382256910270464, [(3, 0), (3, 1), (3, 2), (3, 17), (3, 18)], [], [], []))
abbrev b_Gr_distance : ByteArray := prog_5_method_11_code
def y_Gr_distance : MethodName := ⟨"DrawingHouse$Graph", "distance", "(II)I"⟩
abbrev z_Gr_distance : List Cond := Cond.code y_Gr_distance b_Gr_distance 5 (some .int) :: lw_g
def e_Gr_distance : en_T := ([(2, 0, 0, [3]), (0, 0, 23, []), (0, 0, 23, [])], some (0, -1, 23, []), true, 7, 0, 0, [], [], (0, [], [], [], []))
abbrev b_Gr_findNode_at_Retape : ByteArray := prog_5_method_12_code
def y_Gr_findNode_at_Retape : MethodName := ⟨"DrawingHouse$Graph", "findNode", "([BII)I"⟩
abbrev z_Gr_findNode_at_Retape : List Cond := Cond.code y_Gr_findNode_at_Retape b_Gr_findNode_at_Retape 5 (some .int) :: lw_g
def e_Gr_findNode_at_Retape : en_T := ([(2, 0, 0, [3]), (2, 0, 0, [109]), (0, 0, 2000, []), (0, 0, 8, [])], some (0, -1, 23, []), true, 7, 0, 0, [], [], (0, [], [(21, [2, 3], [2000])], [], []))
abbrev b_Gr_findNode_at_newGrhasNextName1 : ByteArray := prog_5_method_12_code
def y_Gr_findNode_at_newGrhasNextName1 : MethodName := ⟨"DrawingHouse$Graph", "findNode", "([BII)I"⟩
abbrev z_Gr_findNode_at_newGrhasNextName1 : List Cond := Cond.code y_Gr_findNode_at_newGrhasNextName1 b_Gr_findNode_at_newGrhasNextName1 5 (some .int) :: lw_g
def e_Gr_findNode_at_newGrhasNextName1 : en_T := ([(2, 0, 0, [3]), (2, 0, 0, [270]), (0, 0, 0, []), (0, 2, 3, [])], some (0, -1, 23, []), true, 7, 0, 0, [], [], (0, [], [(21, [2, 3], [3])], [], []))
abbrev b_Gr_pack : ByteArray := prog_5_method_26_code
def y_Gr_pack : MethodName := ⟨"DrawingHouse$Graph", "pack", "(I)V"⟩
abbrev z_Gr_pack : List Cond := Cond.code y_Gr_pack b_Gr_pack 4 none :: lw_g
def e_Gr_pack : en_T := ([(2, 0, 0, [3]), (0, 0, 30, [])], none, false, 7, 0, 0, [], [((0, 16), (2, 0, 0, [61]))], (2305843009213693952, [], [], [], []))
abbrev b_Gr_relation : ByteArray := prog_5_method_9_code
def y_Gr_relation : MethodName := ⟨"DrawingHouse$Graph", "relation", "(II)I"⟩
abbrev z_Gr_relation : List Cond := Cond.code y_Gr_relation b_Gr_relation 4 (some .int) :: lw_g
def e_Gr_relation : en_T := ([(2, 0, 0, [3]), (0, 0, 23, []), (0, 0, 23, [])], some (0, 0, 3, []), true, 7, 0, 0, [([(2, 0, 0, [3]), (0, 0, 23, []), (0, 0, 23, []), (0, 3, 3, [])], [], [3], [], [], []), ([(2, 0, 0, [3]), (0, 0, 23, []), (0, 0, 23, []), (0, 2, 2, [])], [], [3], [], [], []), ([(2, 0, 0, [3]), (0, 0, 23, []), (0, 0, 23, []), (0, 1, 1, [])], [], [3], [], [], []), ([(2, 0, 0, [3]), (0, 0, 23, []), (0, 0, 23, []), (0, 0, 0, [])], [], [3], [], [], [])], [], (0, [], [], [], []))
abbrev b_Gr_removeEdge : ByteArray := prog_5_method_23_code
def y_Gr_removeEdge : MethodName := ⟨"DrawingHouse$Graph", "removeEdge", "(I)V"⟩
abbrev z_Gr_removeEdge : List Cond := Cond.code y_Gr_removeEdge b_Gr_removeEdge 3 none :: lw_g
def e_Gr_removeEdge : en_T := ([(2, 0, 0, [3]), (0, 0, 47, [])], none, false, 6, 0, 0, [([(2, 0, 0, [3]), (0, 0, 47, []), (0, 1, 48, []), (0, 0, 47, [])], [], [], [((0, 1), 3)], [(3, 2, -1, -1)], [])], [((0, 1), (0, 1, 48, []))], (67553994410557440, [(3, 1)], [(7, [1, 2], [2])], [], []))
abbrev b_La_halfOf : ByteArray := prog_6_method_28_code
def y_La_halfOf : MethodName := ⟨"DrawingHouse$Layers", "halfOf", "(I)I"⟩
abbrev z_La_halfOf : List Cond := Cond.code y_La_halfOf b_La_halfOf 2 (some .int) :: lw_g
def e_La_halfOf : en_T := ([(2, 0, 0, [4]), (0, 0, 71, [])], some (0, 0, 9, []), true, 7, 0, 0, [([(2, 0, 0, [4]), (0, 0, 71, []), (2, 0, 0, [3]), (0, 0, 0, [])], [], [3], [((0, 1), 2)], [], []), ([(2, 0, 0, [4]), (0, 0, 23, []), (2, 0, 0, [3]), (0, 1, 9, [])], [], [3], [((0, 1), 2)], [], [])], [((0, 1), (2, 0, 0, [3]))], (0, [], [], [], []))
abbrev b_La_sortLayer : ByteArray := prog_6_method_26_code
def y_La_sortLayer : MethodName := ⟨"DrawingHouse$Layers", "sortLayer", "(II)V"⟩
abbrev z_La_sortLayer : List Cond := Cond.code y_La_sortLayer b_La_sortLayer 6 none :: lw_g
def e_La_sortLayer : en_T := ([(2, 0, 0, [4]), (0, 0, 24, []), (0, 0, 23, [])], none, false, 7, 0, 0, [], [], (35417748621522339102720, [], [], [], []))
abbrev b_Ne_begin_at_Ne : ByteArray := prog_7_method_3_code
def y_Ne_begin_at_Ne : MethodName := ⟨"DrawingHouse$Net", "begin", "(I)V"⟩
abbrev z_Ne_begin_at_Ne : List Cond := Cond.code y_Ne_begin_at_Ne b_Ne_begin_at_Ne 2 none :: lw_g
def e_Ne_begin_at_Ne : en_T := ([(2, 0, 0, [5]), (0, 0, 24, [])], none, false, 6, 0, 0, [], [], (61327049295959213692415961312826677828517888, [(5, 5), (5, 6), (5, 13)], [], [(20, [0, 1], [30, 0, 1, 1, 5, -1, 0, 0])], []))
abbrev b_Ne_begin_at_Np : ByteArray := prog_7_method_3_code
def y_Ne_begin_at_Np : MethodName := ⟨"DrawingHouse$Net", "begin", "(I)V"⟩
abbrev z_Ne_begin_at_Np : List Cond := Cond.code y_Ne_begin_at_Np b_Ne_begin_at_Np 2 none :: lw_g
def e_Ne_begin_at_Np : en_T := ([(2, 0, 0, [149]), (0, 0, 24, [])], none, false, 6, 0, 0, [], [], (61327049295959213692415961312826677828517888, [(5, 5), (5, 6), (5, 13)], [], [(20, [0, 1], [30, 0, 1, 1, 5, -1, 0, 0])], []))
abbrev b_Ne_insertBehind : ByteArray := prog_7_method_8_code
def y_Ne_insertBehind : MethodName := ⟨"DrawingHouse$Net", "insertBehind", "(III)V"⟩
abbrev z_Ne_insertBehind : List Cond := Cond.code y_Ne_insertBehind b_Ne_insertBehind 4 none :: lw_g
def e_Ne_insertBehind : en_T := ([(2, 0, 0, [5]), (0, 0, 71, []), (0, 0, 23, []), (0, -1, 71, [])], none, false, 7, 0, 0, [], [], (19342813113834066795298816, [], [], [], []))
abbrev b_Pl_crossingsAt : ByteArray := prog_8_method_19_code
def y_Pl_crossingsAt : MethodName := ⟨"DrawingHouse$PlainWays", "crossingsAt", "(II)I"⟩
abbrev z_Pl_crossingsAt : List Cond := Cond.code y_Pl_crossingsAt b_Pl_crossingsAt 7 (some .int) :: lw_g
def e_Pl_crossingsAt : en_T := ([(2, 0, 0, [6]), (0, 0, 23, []), (0, 0, 16777215, [])], some (0, -2147483648, 2147483647, []), true, 6, 0, 0, [], [((0, 0), (2, 0, 0, [3]))], (0, [], [], [], []))
abbrev b_Pl_fewestNeighbours : ByteArray := prog_8_method_26_code
def y_Pl_fewestNeighbours : MethodName := ⟨"DrawingHouse$PlainWays", "fewestNeighbours", "(I)I"⟩
abbrev z_Pl_fewestNeighbours : List Cond := Cond.code y_Pl_fewestNeighbours b_Pl_fewestNeighbours 6 (some .int) :: lw_g
def e_Pl_fewestNeighbours : en_T := ([(2, 0, 0, [6]), (0, 0, 16777215, [])], some (0, 0, 23, []), true, 6, 0, 0, [], [((0, 0), (2, 0, 0, [3]))], (0, [], [], [], []))
abbrev b_Pl_layRow : ByteArray := prog_8_method_16_code
def y_Pl_layRow : MethodName := ⟨"DrawingHouse$PlainWays", "layRow", "(IIII)V"⟩
abbrev z_Pl_layRow : List Cond := Cond.code y_Pl_layRow b_Pl_layRow 12 none :: lw_g
def e_Pl_layRow : en_T := ([(2, 0, 0, [6]), (0, 0, 31, []), (0, 1, 32, []), (0, -2147483648, 2147483647, []), (0, -2147483648, 2147483647, [])], none, false, 7, 0, 0, [], [((0, 1), (2, 0, 0, [0]))], (158456325028528675187092094976, [], [], [], []))
abbrev b_Pn_pickFromLine : ByteArray := prog_9_method_9_code
def y_Pn_pickFromLine : MethodName := ⟨"DrawingHouse$PlanarWays", "pickFromLine", "()I"⟩
abbrev z_Pn_pickFromLine : List Cond := Cond.code y_Pn_pickFromLine b_Pn_pickFromLine 5 (some .int) :: lw_g
def e_Pn_pickFromLine : en_T := ([(2, 0, 0, [7])], some (0, 1, 23, []), true, 6, 0, 0, [], [], (0, [], [], [], []))
abbrev b_Pn_raiseNodes : ByteArray := prog_9_method_18_code
def y_Pn_raiseNodes : MethodName := ⟨"DrawingHouse$PlanarWays", "raiseNodes", "(LDrawingHouse$Graph;LDrawingHouse$Drawing;)V"⟩
abbrev z_Pn_raiseNodes : List Cond := Cond.code y_Pn_raiseNodes b_Pn_raiseNodes 6 none :: lw_g
def e_Pn_raiseNodes : en_T := ([(2, 0, 0, [7]), (2, 0, 0, [3]), (2, 0, 0, [0])], none, false, 6, 0, 0, [], [], (32768, [], [], [], []))
abbrev b_Pn_replaceInLine : ByteArray := prog_9_method_11_code
def y_Pn_replaceInLine : MethodName := ⟨"DrawingHouse$PlanarWays", "replaceInLine", "(III)V"⟩
abbrev z_Pn_replaceInLine : List Cond := Cond.code y_Pn_replaceInLine b_Pn_replaceInLine 5 none :: lw_g
def e_Pn_replaceInLine : en_T := ([(2, 0, 0, [7]), (0, 0, 24, []), (0, -24, 22, []), (0, 0, 24, [])], none, false, 6, 0, 0, [], [], (10141204801825835211973625643008, [(7, 3)], [], [], []))
abbrev b_Ro_nextStep : ByteArray := prog_11_method_11_code
def y_Ro_nextStep : MethodName := ⟨"DrawingHouse$Router", "nextStep", "(III)I"⟩
abbrev z_Ro_nextStep : List Cond := Cond.code y_Ro_nextStep b_Ro_nextStep 7 (some .int) :: lw_g
def e_Ro_nextStep : en_T := ([(2, 0, 0, [9]), (0, 0, 5999, []), (0, -1, 3, []), (0, -2147483648, 1000000000, [])], some (0, 0, 3, []), true, 7, 0, 0, [], [], (0, [], [(20, [0], [50, 2, 0, 4, 5, 2, 7, 0, 2, 0, 1, 2, 0, 4, 2, 7, 0, 2, 0, 1, 2, 0, 5, 0, 8, 6, 3, 2, 0, 4, 2, 0, 5, 0, 6000]), (20, [1, 0], [50, 2, 0, 1004, 1005, 0, 6, 4, 2, 1, 0, 0, 1, 6, 3, 2, 1, 4, 2, 1, 5])], [], []))
abbrev b_St_addGap : ByteArray := prog_12_method_4_code
def y_St_addGap : MethodName := ⟨"DrawingHouse$Stretch", "addGap", "(III)V"⟩
abbrev z_St_addGap : List Cond := Cond.code y_St_addGap b_St_addGap 4 none :: lw_g
def e_St_addGap : en_T := ([(2, 0, 0, [10]), (0, 0, 71, []), (0, 0, 71, []), (0, 1, 20, [])], none, false, 7, 0, 0, [], [], (4984604984193434523389276476051292160, [(10, 1)], [], [], []))
abbrev b_St_addPiece : ByteArray := prog_12_method_3_code
def y_St_addPiece : MethodName := ⟨"DrawingHouse$Stretch", "addPiece", "(III)V"⟩
abbrev z_St_addPiece : List Cond := Cond.code y_St_addPiece b_St_addPiece 4 none :: lw_g
def e_St_addPiece : en_T := ([(2, 0, 0, [10]), (0, 0, 71, []), (0, 0, 71, []), (0, 0, 576, [])], none, false, 7, 0, 0, [], [], (4984604984193434523389276476051292160, [(10, 1)], [], [], []))
abbrev b_St_ringInBy : ByteArray := prog_12_method_9_code
def y_St_ringInBy : MethodName := ⟨"DrawingHouse$Stretch", "ringInBy", "()I"⟩
abbrev z_St_ringInBy : List Cond := Cond.code y_St_ringInBy b_St_ringInBy 4 (some .int) :: lw_g
def e_St_ringInBy : en_T := ([(2, 0, 0, [10])], some (0, -1, 71, []), false, 6, 0, 0, [], [], (21267647932558653966460912964485513216, [], [], [], []))
abbrev b_St_sendRound : ByteArray := prog_12_method_10_code
def y_St_sendRound : MethodName := ⟨"DrawingHouse$Stretch", "sendRound", "(I)V"⟩
abbrev z_St_sendRound : List Cond := Cond.code y_St_sendRound b_St_sendRound 5 none :: lw_g
def e_St_sendRound : en_T := ([(2, 0, 0, [10]), (0, 0, 71, [])], none, false, 6, 0, 0, [], [], (1329227995784915872903807060280344576, [], [], [], []))
abbrev b_Sy_join : ByteArray := prog_13_method_25_code
def y_Sy_join : MethodName := ⟨"DrawingHouse$Styler", "join", "(IJJ)J"⟩
abbrev z_Sy_join : List Cond := Cond.code y_Sy_join b_Sy_join 5 (some .long) :: lw_g
def e_Sy_join : en_T := ([(0, -2147483648, 2147483647, []), (1, -9223372036854775808, 9223372036854775807, []), (1, -9223372036854775808, 9223372036854775807, [])], some (1, -9223372036854775808, 9223372036854775807, []), true, 6, 0, 0, [], [], (0, [], [], [], []))
abbrev b_Mo_apartNode : ByteArray := prog_15_method_144_code
def y_Mo_apartNode : MethodName := ⟨"DrawingHouseModel", "apartNode", "()I"⟩
abbrev z_Mo_apartNode : List Cond := Cond.code y_Mo_apartNode b_Mo_apartNode 2 (some .int) :: lw_g
def e_Mo_apartNode : en_T := ([(2, 0, 0, [150])], some (0, -1, 24, []), false, 7, 0, 0, [], [], (1496577676626844588240573268701473812127674924007424, [], [], [], []))
abbrev b_Mo_blocksOf : ByteArray := prog_15_method_96_code
def y_Mo_blocksOf : MethodName := ⟨"DrawingHouseModel", "blocksOf", "(I)I"⟩
abbrev z_Mo_blocksOf : List Cond := Cond.code y_Mo_blocksOf b_Mo_blocksOf 6 (some .int) :: lw_g
def e_Mo_blocksOf : en_T := ([(2, 0, 0, [150]), (0, 0, 23, [])], some (0, -2147483648, 2147483647, []), true, 7, 0, 0, [], [], (0, [], [], [], []))
abbrev b_Mo_byMeans : ByteArray := prog_15_method_136_code
def y_Mo_byMeans : MethodName := ⟨"DrawingHouseModel", "byMeans", "(IZ)V"⟩
abbrev z_Mo_byMeans : List Cond := Cond.code y_Mo_byMeans b_Mo_byMeans 11 none :: lw_g
def e_Mo_byMeans : en_T := ([(2, 0, 0, [150]), (0, 0, 75, []), (0, 0, 1, [])], none, false, 7, 0, 0, [], [], (358917769979776467586401971853492343158131303697282641440932363247812608, [], [], [], []))
abbrev b_Mo_choose : ByteArray := prog_15_method_81_code
def y_Mo_choose : MethodName := ⟨"DrawingHouseModel", "choose", "()I"⟩
abbrev z_Mo_choose : List Cond := Cond.code y_Mo_choose b_Mo_choose 6 (some .int) :: lw_g
def e_Mo_choose : en_T := ([(2, 0, 0, [150])], some (0, -1, 79, []), true, 7, 0, 0, [], [], (0, [], [], [], []))
abbrev b_Mo_comma : ByteArray := prog_15_method_220_code
def y_Mo_comma : MethodName := ⟨"DrawingHouseModel", "comma", "()Z"⟩
abbrev z_Mo_comma : List Cond := Cond.code y_Mo_comma b_Mo_comma 1 (some .boolean) :: lw_g
def e_Mo_comma : en_T := ([(2, 0, 0, [150])], some (0, 0, 1, []), false, 7, 0, 0, [], [], (0, [(13, 158)], [(20, [0], [50, 2, 1, 158, 157, 160, 2, 12, 0, 7, 4, 3, 2, 0, 158, 0, 1, 2, 0, 157, 2, 7, 0, 3, 2, 0, 157, 0, 2010, 3, 14, 1, 10, 3, 0, 160, 5, 3, 2, 0, 157, 0, 1, 0, 0, 1, 10, 3, 0, 160, 5, 3, 2, 0, 157, 0, 1, 0, 4]), (20, [0, 1], [30, 0, 1, 1, 158, -1, 0, 0]), (20, [0, 1], [30, 0, -1, 1, 158, 1, 0, 0])], [(20, [0], [50, 2, 1, 158, 157, 160, 2, 12, 0, 7, 4, 3, 2, 0, 158, 0, 1, 2, 0, 157, 2, 7, 0, 3, 2, 0, 157, 0, 2010, 3, 14, 1, 10, 3, 0, 160, 5, 3, 2, 0, 157, 0, 1, 0, 0, 1, 10, 3, 0, 160, 5, 3, 2, 0, 157, 0, 1, 0, 4]), (20, [1, 2, 0], [30, 0, 1, 0, 0, 1, 0, 0, -1, 1, 158])], [(0, 0, 2009, [])]))
abbrev b_Mo_crossings : ByteArray := prog_15_method_129_code
def y_Mo_crossings : MethodName := ⟨"DrawingHouseModel", "crossings", "()I"⟩
abbrev z_Mo_crossings : List Cond := Cond.code y_Mo_crossings b_Mo_crossings 6 (some .int) :: lw_g
def e_Mo_crossings : en_T := ([(2, 0, 0, [150])], some (0, -2147483648, 2147483647, []), true, 7, 0, 0, [], [], (0, [], [], [], []))
abbrev b_Mo_dart : ByteArray := prog_15_method_153_code
def y_Mo_dart : MethodName := ⟨"DrawingHouseModel", "dart", "(I)I"⟩
abbrev z_Mo_dart : List Cond := Cond.code y_Mo_dart b_Mo_dart 2 (some .int) :: lw_g
def e_Mo_dart : en_T := ([(2, 0, 0, [150]), (0, 0, 79, [])], some (0, 0, 159, []), true, 7, 0, 0, [([(2, 0, 0, [150]), (0, 0, 79, []), (0, 1, 159, [])], [], [2], [], [], []), ([(2, 0, 0, [150]), (0, 0, 79, []), (0, 0, 158, [])], [], [2], [], [], [(2, 2)])], [], (0, [], [], [], []))
abbrev b_Mo_dot : ByteArray := prog_15_method_246_code
def y_Mo_dot : MethodName := ⟨"DrawingHouseModel", "dot", "(II)I"⟩
abbrev z_Mo_dot : List Cond := Cond.code y_Mo_dot b_Mo_dot 3 (some .int) :: lw_g
def e_Mo_dot : en_T := ([(2, 0, 0, [150]), (0, -2147483648, 2147483647, []), (0, -2147483648, 2147483647, [])], some (0, -1, 256, []), true, 7, 0, 0, [([(2, 0, 0, [150]), (0, -2147483648, -1, []), (0, -2147483648, 2147483647, []), (0, -1, -1, [])], [], [3], [], [], []), ([(2, 0, 0, [150]), (0, 0, 2147483647, []), (0, -2147483648, 2147483647, []), (0, -1, -1, [])], [], [3], [], [], []), ([(2, 0, 0, [150]), (0, 0, 63, []), (0, -2147483648, -1, []), (0, -1, -1, [])], [], [3], [], [], []), ([(2, 0, 0, [150]), (0, 0, 63, []), (0, 0, 2147483647, []), (0, -1, -1, [])], [], [3], [], [], []), ([(2, 0, 0, [150]), (0, 0, 63, []), (0, 0, 63, []), (0, 0, 256, [])], [], [3], [], [], [])], [], (0, [], [], [], []))
abbrev b_Mo_dotX : ByteArray := prog_15_method_243_code
def y_Mo_dotX : MethodName := ⟨"DrawingHouseModel", "dotX", "(I)I"⟩
abbrev z_Mo_dotX : List Cond := Cond.code y_Mo_dotX b_Mo_dotX 2 (some .int) :: lw_g
def e_Mo_dotX : en_T := ([(2, 0, 0, [150]), (0, -2147483648, 2147483647, [])], some (0, -2147483648, 2147483647, []), true, 6, 0, 0, [([(2, 0, 0, [150]), (0, -2147483648, 2147483647, []), (0, -2147483648, 2147483647, [])], [], [2], [], [], [])], [], (0, [], [], [], []))
abbrev b_Mo_dotY : ByteArray := prog_15_method_244_code
def y_Mo_dotY : MethodName := ⟨"DrawingHouseModel", "dotY", "(I)I"⟩
abbrev z_Mo_dotY : List Cond := Cond.code y_Mo_dotY b_Mo_dotY 2 (some .int) :: lw_g
def e_Mo_dotY : en_T := ([(2, 0, 0, [150]), (0, -2147483648, 2147483647, [])], some (0, -2147483648, 2147483647, []), true, 6, 0, 0, [([(2, 0, 0, [150]), (0, -2147483648, 2147483647, []), (0, -2147483648, 2147483647, [])], [], [2], [], [], [])], [], (0, [], [], [], []))
abbrev b_Mo_dropEdge_at_g0 : ByteArray := prog_15_method_47_code
def y_Mo_dropEdge_at_g0 : MethodName := ⟨"DrawingHouseModel", "dropEdge", "(I)V"⟩
abbrev z_Mo_dropEdge_at_g0 : List Cond := Cond.code y_Mo_dropEdge_at_g0 b_Mo_dropEdge_at_g0 3 none :: lw_g
def e_Mo_dropEdge_at_g0 : en_T := ([(2, 0, 0, [150]), (0, 0, 47, [])], none, false, 7, 0, 0, [], [], (5708990770823839524233143877797980545530986496, [], [(20, [1, 0], [30, -1, 1, 0, 0, -1, 3, 2005001]), (20, [2, 0], [30, -1, 1, 0, 0, -1, 3, 2005000])], [(20, [1, 0], [30, 0, 1, 0, 0, -1, 3, 2005001]), (20, [2, 0], [30, -1, 1, 0, 0, -1, 3, 2005000])], [(0, 0, 23, [])]))
abbrev b_Mo_dropEdge_at_gx : ByteArray := prog_15_method_47_code
def y_Mo_dropEdge_at_gx : MethodName := ⟨"DrawingHouseModel", "dropEdge", "(I)V"⟩
abbrev z_Mo_dropEdge_at_gx : List Cond := Cond.code y_Mo_dropEdge_at_gx b_Mo_dropEdge_at_gx 3 none :: lw_g
def e_Mo_dropEdge_at_gx : en_T := ([(2, 0, 0, [150]), (0, 0, 47, [])], none, false, 7, 0, 0, [], [], (5708990770823839524233143877797980545530986496, [], [(20, [1, 0], [30, -1, 1, 0, 0, -1, 3, 2005001])], [(20, [1, 0], [30, 0, 1, 0, 0, -1, 3, 2005001])], []))
abbrev b_Mo_edgeOf : ByteArray := prog_15_method_70_code
def y_Mo_edgeOf : MethodName := ⟨"DrawingHouseModel", "edgeOf", "(II)I"⟩
abbrev z_Mo_edgeOf : List Cond := Cond.code y_Mo_edgeOf b_Mo_edgeOf 4 (some .int) :: lw_g
def e_Mo_edgeOf : en_T := ([(2, 0, 0, [150]), (0, -1, 25, []), (0, -1, 24, [])], some (0, -1, 79, []), true, 7, 0, 0, [], [], (0, [], [], [], []))
abbrev b_Mo_fault : ByteArray := prog_15_method_24_code
def y_Mo_fault : MethodName := ⟨"DrawingHouseModel", "fault", "(I)I"⟩
abbrev z_Mo_fault : List Cond := Cond.code y_Mo_fault b_Mo_fault 2 (some .int) :: lw_g
def e_Mo_fault : en_T := ([(2, 0, 0, [150]), (0, -2147483648, 2147483647, [])], some (0, -1, 2000, []), true, 7, 0, 0, [([(2, 0, 0, [150]), (0, -2147483648, 2147483647, []), (0, -1, -1, [])], [], [2], [], [], []), ([(2, 0, 0, [150]), (0, -2147483648, -1, []), (0, -1, -1, [])], [], [2], [], [], []), ([(2, 0, 0, [150]), (0, 2, 2147483647, []), (0, -1, -1, [])], [], [2], [], [], []), ([(2, 0, 0, [150]), (0, 1, 1, []), (0, 0, 2000, [])], [], [2], [], [], []), ([(2, 0, 0, [150]), (0, 1, 1, []), (0, -1, -1, [])], [], [2], [], [], []), ([(2, 0, 0, [150]), (0, 0, 0, []), (0, 0, 5, [])], [], [2], [], [], [])], [], (0, [], [], [], []))
abbrev b_Mo_firstFit : ByteArray := prog_15_method_80_code
def y_Mo_firstFit : MethodName := ⟨"DrawingHouseModel", "firstFit", "(I)I"⟩
abbrev z_Mo_firstFit : List Cond := Cond.code y_Mo_firstFit b_Mo_firstFit 3 (some .int) :: lw_g
def e_Mo_firstFit : en_T := ([(2, 0, 0, [150]), (0, 0, 79, [])], some (0, -1, 119, []), true, 7, 0, 0, [], [], (0, [], [], [], []))
abbrev b_Mo_isDigit : ByteArray := prog_15_method_27_code
def y_Mo_isDigit : MethodName := ⟨"DrawingHouseModel", "isDigit", "(I)Z"⟩
abbrev z_Mo_isDigit : List Cond := Cond.code y_Mo_isDigit b_Mo_isDigit 1 (some .boolean) :: lw_g
def e_Mo_isDigit : en_T := ([(0, -1, 255, [])], some (0, 0, 1, []), true, 7, 0, 0, [([(0, -1, 47, []), (0, 0, 0, [])], [], [1], [], [], []), ([(0, 58, 255, []), (0, 0, 0, [])], [], [1], [], [], []), ([(0, 48, 57, []), (0, 1, 1, [])], [], [1], [], [], [])], [], (0, [], [], [], []))
abbrev b_Mo_isLetter : ByteArray := prog_15_method_26_code
def y_Mo_isLetter : MethodName := ⟨"DrawingHouseModel", "isLetter", "(I)Z"⟩
abbrev z_Mo_isLetter : List Cond := Cond.code y_Mo_isLetter b_Mo_isLetter 1 (some .boolean) :: lw_g
def e_Mo_isLetter : en_T := ([(0, -1, 255, [])], some (0, 0, 1, []), true, 7, 0, 0, [([(0, -1, 64, []), (0, 0, 0, [])], [], [1], [], [], []), ([(0, 91, 96, []), (0, 0, 0, [])], [], [1], [], [], []), ([(0, 65, 90, []), (0, 1, 1, [])], [], [1], [], [], []), ([(0, 123, 255, []), (0, 0, 0, [])], [], [1], [], [], []), ([(0, 97, 122, []), (0, 1, 1, [])], [], [1], [], [], [])], [], (0, [], [], [], []))
abbrev b_Mo_isPlace : ByteArray := prog_15_method_9_code
def y_Mo_isPlace : MethodName := ⟨"DrawingHouseModel", "isPlace", "(I)Z"⟩
abbrev z_Mo_isPlace : List Cond := Cond.code y_Mo_isPlace b_Mo_isPlace 1 (some .boolean) :: lw_g
def e_Mo_isPlace : en_T := ([(0, -2147483648, 2147483647, [])], some (0, 0, 1, []), true, 7, 0, 0, [([(0, -2147483648, -1, []), (0, 0, 0, [])], [], [1], [], [], []), ([(0, 4, 2147483647, []), (0, 0, 0, [])], [], [1], [], [], []), ([(0, 0, 3, []), (0, 1, 1, [])], [], [1], [], [], [])], [], (0, [], [], [], []))
abbrev b_Mo_join : ByteArray := prog_15_method_67_code
def y_Mo_join : MethodName := ⟨"DrawingHouseModel", "join", "(II)V"⟩
abbrev z_Mo_join : List Cond := Cond.code y_Mo_join b_Mo_join 4 none :: lw_g
def e_Mo_join : en_T := ([(2, 0, 0, [150]), (0, -1, 79, []), (0, -1, 79, [])], none, false, 7, 0, 0, [], [], (182687704666362864775460604089535377456991567872, [], [], [], []))
abbrev b_Mo_map : ByteArray := prog_15_method_61_code
def y_Mo_map : MethodName := ⟨"DrawingHouseModel", "map", "(I)I"⟩
abbrev z_Mo_map : List Cond := Cond.code y_Mo_map b_Mo_map 2 (some .int) :: lw_g
def e_Mo_map : en_T := ([(2, 0, 0, [150]), (0, -2147483648, 2147483647, [])], some (0, -1, 20000, []), true, 7, 0, 0, [([(2, 0, 0, [150]), (0, -2147483648, 2147483647, []), (0, -1, -1, [])], [], [2], [], [], []), ([(2, 0, 0, [150]), (0, -2147483648, -1, []), (0, -1, -1, [])], [], [2], [], [], []), ([(2, 0, 0, [150]), (0, 0, 2147483647, []), (0, -1, -1, [])], [], [2], [], [], []), ([(2, 0, 0, [150]), (0, 0, 23, []), (0, -1, 23, [])], [], [2], [], [], []), ([(2, 0, 0, [150]), (0, -1, -1, []), (0, -1, -1, [])], [], [2], [], [], []), ([(2, 0, 0, [150]), (0, -1, -1, []), (0, 0, 20000, [])], [], [2], [], [], [])], [], (0, [], [], [], []))
abbrev b_Mo_newEdge_at_g0 : ByteArray := prog_15_method_40_code
def y_Mo_newEdge_at_g0 : MethodName := ⟨"DrawingHouseModel", "newEdge", "(III)V"⟩
abbrev z_Mo_newEdge_at_g0 : List Cond := Cond.code y_Mo_newEdge_at_g0 b_Mo_newEdge_at_g0 5 none :: lw_g
def e_Mo_newEdge_at_g0 : en_T := ([(2, 0, 0, [150]), (0, 0, 23, []), (0, 0, 23, []), (0, 0, 1, [])], none, false, 7, 0, 0, [], [], (5708990770823839524233143877797980545530986496, [], [(20, [0], [30, 47, 1, 3, 2005001]), (20, [4, 0], [50, 1, 1, 1005, 1002, 0, 6, 4, 2, 1, 0, 0, 1, 3, 1, 2, 4, 3, 2, 1, 5, 0, 2])], [(20, [4, 0], [50, 1, 1, 1005, 1002, 0, 6, 4, 2, 1, 0, 0, 1, 3, 1, 2, 4, 3, 2, 1, 5, 0, 2])], [(0, 0, 7, [])]))
abbrev b_Mo_newEdge_at_gx : ByteArray := prog_15_method_40_code
def y_Mo_newEdge_at_gx : MethodName := ⟨"DrawingHouseModel", "newEdge", "(III)V"⟩
abbrev z_Mo_newEdge_at_gx : List Cond := Cond.code y_Mo_newEdge_at_gx b_Mo_newEdge_at_gx 5 none :: lw_g
def e_Mo_newEdge_at_gx : en_T := ([(2, 0, 0, [150]), (0, 0, 23, []), (0, 0, 23, []), (0, 0, 0, [])], none, false, 7, 0, 0, [], [], (5708990770823839524233143877797980545530986496, [], [(20, [0], [30, 47, 1, 3, 2005001])], [], []))
abbrev b_Mo_octet : ByteArray := prog_15_method_241_code
def y_Mo_octet : MethodName := ⟨"DrawingHouseModel", "octet", "(I)I"⟩
abbrev z_Mo_octet : List Cond := Cond.code y_Mo_octet b_Mo_octet 2 (some .int) :: lw_g
def e_Mo_octet : en_T := ([(2, 0, 0, [150]), (0, -2147483648, 2147483647, [])], some (0, -128, 127, []), true, 7, 0, 0, [([(2, 0, 0, [150]), (0, -2147483648, -1, []), (0, -1, -1, [])], [], [2], [], [], []), ([(2, 0, 0, [150]), (0, 0, 2147483647, []), (0, -1, -1, [])], [], [2], [], [], []), ([(2, 0, 0, [150]), (0, 0, 3999, []), (0, -128, 127, [])], [], [2], [], [], [])], [], (0, [], [], [], []))
abbrev b_Mo_putAhead : ByteArray := prog_15_method_139_code
def y_Mo_putAhead : MethodName := ⟨"DrawingHouseModel", "putAhead", "(III)V"⟩
abbrev z_Mo_putAhead : List Cond := Cond.code y_Mo_putAhead b_Mo_putAhead 5 none :: lw_g
def e_Mo_putAhead : en_T := ([(2, 0, 0, [150]), (0, 0, 24, []), (0, 0, 79, []), (0, 0, 79, [])], none, false, 7, 0, 0, [], [], (1122433257470133441180429951526105359095756193005568, [], [], [], []))
abbrev b_Mo_putBehind : ByteArray := prog_15_method_140_code
def y_Mo_putBehind : MethodName := ⟨"DrawingHouseModel", "putBehind", "(III)V"⟩
abbrev z_Mo_putBehind : List Cond := Cond.code y_Mo_putBehind b_Mo_putBehind 5 none :: lw_g
def e_Mo_putBehind : en_T := ([(2, 0, 0, [150]), (0, 0, 24, []), (0, 0, 79, []), (0, 0, 79, [])], none, false, 7, 0, 0, [], [], (1122433257470133441180429951526105359095756193005568, [], [], [], []))
abbrev b_Mo_styleOpen_at_f0 : ByteArray := prog_15_method_216_code
def y_Mo_styleOpen_at_f0 : MethodName := ⟨"DrawingHouseModel", "styleOpen", "()V"⟩
abbrev z_Mo_styleOpen_at_f0 : List Cond := Cond.code y_Mo_styleOpen_at_f0 b_Mo_styleOpen_at_f0 1 none :: lw_g
def e_Mo_styleOpen_at_f0 : en_T := ([(2, 0, 0, [150])], none, false, 6, 0, 0, [([(2, 0, 0, [150]), (0, 0, 0, []), (0, 0, 2009, []), (0, 1, 1, [])], [], [], [((0, 159), 3)], [], [])], [((0, 159), (0, 0, 13, []))], (0, [(13, 8), (13, 9), (13, 158), (13, 159)], [(20, [0], [50, 2, 1, 158, 157, 160, 2, 12, 0, 7, 4, 3, 2, 0, 158, 0, 1, 2, 0, 157, 2, 7, 0, 3, 2, 0, 157, 0, 2010, 3, 14, 1, 10, 3, 0, 160, 5, 3, 2, 0, 157, 0, 1, 0, 0, 1, 10, 3, 0, 160, 5, 3, 2, 0, 157, 0, 1, 0, 4]), (20, [0, 2], [30, 0, 1, 1, 158, -1, 0, 0]), (20, [0, 2], [30, 0, -1, 1, 158, 1, 0, 0]), (20, [0], [50, 1, 1, 158, 160, 7, 6, 3, 0, 160, 2, 0, 158, 0, 0]), (20, [0], [50, 1, 1, 158, 160, 7, 6, 3, 0, 160, 2, 0, 158, 0, 4]), (20, [0], [30, 0, 1, 1, 159]), (20, [0], [30, 0, -1, 1, 159])], [(20, [0], [50, 2, 1, 158, 157, 160, 2, 12, 0, 7, 4, 3, 2, 0, 158, 0, 1, 2, 0, 157, 2, 7, 0, 3, 2, 0, 157, 0, 2010, 3, 14, 1, 10, 3, 0, 160, 5, 3, 2, 0, 157, 0, 1, 0, 0, 1, 10, 3, 0, 160, 5, 3, 2, 0, 157, 0, 1, 0, 4]), (20, [2, 0], [30, -1, 1, 0, 0, -1, 1, 158]), (20, [0], [30, 1, 1, 1, 159]), (20, [0], [30, -1, -1, 1, 159])], [(0, 0, 2009, [])]))
abbrev b_Mo_styleOpen_at_f1 : ByteArray := prog_15_method_216_code
def y_Mo_styleOpen_at_f1 : MethodName := ⟨"DrawingHouseModel", "styleOpen", "()V"⟩
abbrev z_Mo_styleOpen_at_f1 : List Cond := Cond.code y_Mo_styleOpen_at_f1 b_Mo_styleOpen_at_f1 1 none :: lw_g
def e_Mo_styleOpen_at_f1 : en_T := ([(2, 0, 0, [150])], none, false, 6, 0, 0, [([(2, 0, 0, [150]), (0, 1, 1, []), (0, 0, 2009, []), (0, 2, 2, [])], [], [], [((0, 159), 3)], [], [])], [((0, 159), (0, 0, 13, []))], (0, [(13, 8), (13, 9), (13, 158), (13, 159)], [(20, [0], [50, 2, 1, 158, 157, 160, 2, 12, 0, 7, 4, 3, 2, 0, 158, 0, 1, 2, 0, 157, 2, 7, 0, 3, 2, 0, 157, 0, 2010, 3, 14, 1, 10, 3, 0, 160, 5, 3, 2, 0, 157, 0, 1, 0, 0, 1, 10, 3, 0, 160, 5, 3, 2, 0, 157, 0, 1, 0, 4]), (20, [0, 2], [30, 0, 1, 1, 158, -1, 0, 0]), (20, [0, 2], [30, 0, -1, 1, 158, 1, 0, 0]), (20, [0], [50, 1, 1, 158, 160, 7, 6, 3, 0, 160, 2, 0, 158, 0, 0]), (20, [0], [50, 1, 1, 158, 160, 7, 6, 3, 0, 160, 2, 0, 158, 0, 4]), (20, [0], [30, 1, 1, 1, 159]), (20, [0], [30, -1, -1, 1, 159])], [(20, [0], [50, 2, 1, 158, 157, 160, 2, 12, 0, 7, 4, 3, 2, 0, 158, 0, 1, 2, 0, 157, 2, 7, 0, 3, 2, 0, 157, 0, 2010, 3, 14, 1, 10, 3, 0, 160, 5, 3, 2, 0, 157, 0, 1, 0, 0, 1, 10, 3, 0, 160, 5, 3, 2, 0, 157, 0, 1, 0, 4]), (20, [2, 0], [30, -1, 1, 0, 0, -1, 1, 158]), (20, [0], [30, 2, 1, 1, 159]), (20, [0], [30, -2, -1, 1, 159])], [(0, 0, 2009, [])]))
abbrev b_Mo_styleOpen_at_f10 : ByteArray := prog_15_method_216_code
def y_Mo_styleOpen_at_f10 : MethodName := ⟨"DrawingHouseModel", "styleOpen", "()V"⟩
abbrev z_Mo_styleOpen_at_f10 : List Cond := Cond.code y_Mo_styleOpen_at_f10 b_Mo_styleOpen_at_f10 1 none :: lw_g
def e_Mo_styleOpen_at_f10 : en_T := ([(2, 0, 0, [150])], none, false, 6, 0, 0, [([(2, 0, 0, [150]), (0, 10, 10, []), (0, 0, 2009, []), (0, 11, 11, [])], [], [], [((0, 159), 3)], [], [])], [((0, 159), (0, 0, 13, []))], (0, [(13, 8), (13, 9), (13, 158), (13, 159)], [(20, [0], [50, 2, 1, 158, 157, 160, 2, 12, 0, 7, 4, 3, 2, 0, 158, 0, 1, 2, 0, 157, 2, 7, 0, 3, 2, 0, 157, 0, 2010, 3, 14, 1, 10, 3, 0, 160, 5, 3, 2, 0, 157, 0, 1, 0, 0, 1, 10, 3, 0, 160, 5, 3, 2, 0, 157, 0, 1, 0, 4]), (20, [0, 2], [30, 0, 1, 1, 158, -1, 0, 0]), (20, [0, 2], [30, 0, -1, 1, 158, 1, 0, 0]), (20, [0], [50, 1, 1, 158, 160, 7, 6, 3, 0, 160, 2, 0, 158, 0, 0]), (20, [0], [50, 1, 1, 158, 160, 7, 6, 3, 0, 160, 2, 0, 158, 0, 4]), (20, [0], [30, 10, 1, 1, 159]), (20, [0], [30, -10, -1, 1, 159])], [(20, [0], [50, 2, 1, 158, 157, 160, 2, 12, 0, 7, 4, 3, 2, 0, 158, 0, 1, 2, 0, 157, 2, 7, 0, 3, 2, 0, 157, 0, 2010, 3, 14, 1, 10, 3, 0, 160, 5, 3, 2, 0, 157, 0, 1, 0, 0, 1, 10, 3, 0, 160, 5, 3, 2, 0, 157, 0, 1, 0, 4]), (20, [2, 0], [30, -1, 1, 0, 0, -1, 1, 158]), (20, [0], [30, 11, 1, 1, 159]), (20, [0], [30, -11, -1, 1, 159])], [(0, 0, 2009, [])]))
abbrev b_Mo_styleOpen_at_f11 : ByteArray := prog_15_method_216_code
def y_Mo_styleOpen_at_f11 : MethodName := ⟨"DrawingHouseModel", "styleOpen", "()V"⟩
abbrev z_Mo_styleOpen_at_f11 : List Cond := Cond.code y_Mo_styleOpen_at_f11 b_Mo_styleOpen_at_f11 1 none :: lw_g
def e_Mo_styleOpen_at_f11 : en_T := ([(2, 0, 0, [150])], none, false, 6, 0, 0, [([(2, 0, 0, [150]), (0, 11, 11, []), (0, 0, 2009, []), (0, 12, 12, [])], [], [], [((0, 159), 3)], [], [])], [((0, 159), (0, 0, 13, []))], (0, [(13, 8), (13, 9), (13, 158), (13, 159)], [(20, [0], [50, 2, 1, 158, 157, 160, 2, 12, 0, 7, 4, 3, 2, 0, 158, 0, 1, 2, 0, 157, 2, 7, 0, 3, 2, 0, 157, 0, 2010, 3, 14, 1, 10, 3, 0, 160, 5, 3, 2, 0, 157, 0, 1, 0, 0, 1, 10, 3, 0, 160, 5, 3, 2, 0, 157, 0, 1, 0, 4]), (20, [0, 2], [30, 0, 1, 1, 158, -1, 0, 0]), (20, [0, 2], [30, 0, -1, 1, 158, 1, 0, 0]), (20, [0], [50, 1, 1, 158, 160, 7, 6, 3, 0, 160, 2, 0, 158, 0, 0]), (20, [0], [50, 1, 1, 158, 160, 7, 6, 3, 0, 160, 2, 0, 158, 0, 4]), (20, [0], [30, 11, 1, 1, 159]), (20, [0], [30, -11, -1, 1, 159])], [(20, [0], [50, 2, 1, 158, 157, 160, 2, 12, 0, 7, 4, 3, 2, 0, 158, 0, 1, 2, 0, 157, 2, 7, 0, 3, 2, 0, 157, 0, 2010, 3, 14, 1, 10, 3, 0, 160, 5, 3, 2, 0, 157, 0, 1, 0, 0, 1, 10, 3, 0, 160, 5, 3, 2, 0, 157, 0, 1, 0, 4]), (20, [2, 0], [30, -1, 1, 0, 0, -1, 1, 158]), (20, [0], [30, 12, 1, 1, 159]), (20, [0], [30, -12, -1, 1, 159])], [(0, 0, 2009, [])]))
abbrev b_Mo_styleOpen_at_f12 : ByteArray := prog_15_method_216_code
def y_Mo_styleOpen_at_f12 : MethodName := ⟨"DrawingHouseModel", "styleOpen", "()V"⟩
abbrev z_Mo_styleOpen_at_f12 : List Cond := Cond.code y_Mo_styleOpen_at_f12 b_Mo_styleOpen_at_f12 1 none :: lw_g
def e_Mo_styleOpen_at_f12 : en_T := ([(2, 0, 0, [150])], none, false, 7, 0, 0, [([(2, 0, 0, [150]), (0, 12, 12, []), (0, 0, 2009, []), (0, 13, 13, [])], [], [], [((0, 159), 3)], [], [])], [((0, 159), (0, 0, 13, []))], (0, [(13, 8), (13, 9), (13, 158), (13, 159)], [(20, [0], [50, 2, 1, 158, 157, 160, 2, 12, 0, 7, 4, 3, 2, 0, 158, 0, 1, 2, 0, 157, 2, 7, 0, 3, 2, 0, 157, 0, 2010, 3, 14, 1, 10, 3, 0, 160, 5, 3, 2, 0, 157, 0, 1, 0, 0, 1, 10, 3, 0, 160, 5, 3, 2, 0, 157, 0, 1, 0, 4]), (20, [0, 2], [30, 0, 1, 1, 158, -1, 0, 0]), (20, [0, 2], [30, 0, -1, 1, 158, 1, 0, 0]), (20, [0], [50, 1, 1, 158, 160, 7, 6, 3, 0, 160, 2, 0, 158, 0, 0]), (20, [0], [50, 1, 1, 158, 160, 7, 6, 3, 0, 160, 2, 0, 158, 0, 4]), (20, [0], [30, 12, 1, 1, 159]), (20, [0], [30, -12, -1, 1, 159])], [(20, [0], [50, 2, 1, 158, 157, 160, 2, 12, 0, 7, 4, 3, 2, 0, 158, 0, 1, 2, 0, 157, 2, 7, 0, 3, 2, 0, 157, 0, 2010, 3, 14, 1, 10, 3, 0, 160, 5, 3, 2, 0, 157, 0, 1, 0, 0, 1, 10, 3, 0, 160, 5, 3, 2, 0, 157, 0, 1, 0, 4]), (20, [2, 0], [30, -1, 1, 0, 0, -1, 1, 158]), (20, [0], [30, 13, 1, 1, 159]), (20, [0], [30, -13, -1, 1, 159]), (20, [0], [30, -1, -1, 1, 8])], [(0, 0, 2009, [])]))
abbrev b_Mo_styleOpen_at_f2 : ByteArray := prog_15_method_216_code
def y_Mo_styleOpen_at_f2 : MethodName := ⟨"DrawingHouseModel", "styleOpen", "()V"⟩
abbrev z_Mo_styleOpen_at_f2 : List Cond := Cond.code y_Mo_styleOpen_at_f2 b_Mo_styleOpen_at_f2 1 none :: lw_g
def e_Mo_styleOpen_at_f2 : en_T := ([(2, 0, 0, [150])], none, false, 6, 0, 0, [([(2, 0, 0, [150]), (0, 2, 2, []), (0, 0, 2009, []), (0, 3, 3, [])], [], [], [((0, 159), 3)], [], [])], [((0, 159), (0, 0, 13, []))], (0, [(13, 8), (13, 9), (13, 158), (13, 159)], [(20, [0], [50, 2, 1, 158, 157, 160, 2, 12, 0, 7, 4, 3, 2, 0, 158, 0, 1, 2, 0, 157, 2, 7, 0, 3, 2, 0, 157, 0, 2010, 3, 14, 1, 10, 3, 0, 160, 5, 3, 2, 0, 157, 0, 1, 0, 0, 1, 10, 3, 0, 160, 5, 3, 2, 0, 157, 0, 1, 0, 4]), (20, [0, 2], [30, 0, 1, 1, 158, -1, 0, 0]), (20, [0, 2], [30, 0, -1, 1, 158, 1, 0, 0]), (20, [0], [50, 1, 1, 158, 160, 7, 6, 3, 0, 160, 2, 0, 158, 0, 0]), (20, [0], [50, 1, 1, 158, 160, 7, 6, 3, 0, 160, 2, 0, 158, 0, 4]), (20, [0], [30, 2, 1, 1, 159]), (20, [0], [30, -2, -1, 1, 159])], [(20, [0], [50, 2, 1, 158, 157, 160, 2, 12, 0, 7, 4, 3, 2, 0, 158, 0, 1, 2, 0, 157, 2, 7, 0, 3, 2, 0, 157, 0, 2010, 3, 14, 1, 10, 3, 0, 160, 5, 3, 2, 0, 157, 0, 1, 0, 0, 1, 10, 3, 0, 160, 5, 3, 2, 0, 157, 0, 1, 0, 4]), (20, [2, 0], [30, -1, 1, 0, 0, -1, 1, 158]), (20, [0], [30, 3, 1, 1, 159]), (20, [0], [30, -3, -1, 1, 159])], [(0, 0, 2009, [])]))
abbrev b_Mo_styleOpen_at_f3 : ByteArray := prog_15_method_216_code
def y_Mo_styleOpen_at_f3 : MethodName := ⟨"DrawingHouseModel", "styleOpen", "()V"⟩
abbrev z_Mo_styleOpen_at_f3 : List Cond := Cond.code y_Mo_styleOpen_at_f3 b_Mo_styleOpen_at_f3 1 none :: lw_g
def e_Mo_styleOpen_at_f3 : en_T := ([(2, 0, 0, [150])], none, false, 6, 0, 0, [([(2, 0, 0, [150]), (0, 3, 3, []), (0, 0, 2009, []), (0, 4, 4, [])], [], [], [((0, 159), 3)], [], [])], [((0, 159), (0, 0, 13, []))], (0, [(13, 8), (13, 9), (13, 158), (13, 159)], [(20, [0], [50, 2, 1, 158, 157, 160, 2, 12, 0, 7, 4, 3, 2, 0, 158, 0, 1, 2, 0, 157, 2, 7, 0, 3, 2, 0, 157, 0, 2010, 3, 14, 1, 10, 3, 0, 160, 5, 3, 2, 0, 157, 0, 1, 0, 0, 1, 10, 3, 0, 160, 5, 3, 2, 0, 157, 0, 1, 0, 4]), (20, [0, 2], [30, 0, 1, 1, 158, -1, 0, 0]), (20, [0, 2], [30, 0, -1, 1, 158, 1, 0, 0]), (20, [0], [50, 1, 1, 158, 160, 7, 6, 3, 0, 160, 2, 0, 158, 0, 0]), (20, [0], [50, 1, 1, 158, 160, 7, 6, 3, 0, 160, 2, 0, 158, 0, 4]), (20, [0], [30, 3, 1, 1, 159]), (20, [0], [30, -3, -1, 1, 159])], [(20, [0], [50, 2, 1, 158, 157, 160, 2, 12, 0, 7, 4, 3, 2, 0, 158, 0, 1, 2, 0, 157, 2, 7, 0, 3, 2, 0, 157, 0, 2010, 3, 14, 1, 10, 3, 0, 160, 5, 3, 2, 0, 157, 0, 1, 0, 0, 1, 10, 3, 0, 160, 5, 3, 2, 0, 157, 0, 1, 0, 4]), (20, [2, 0], [30, -1, 1, 0, 0, -1, 1, 158]), (20, [0], [30, 4, 1, 1, 159]), (20, [0], [30, -4, -1, 1, 159])], [(0, 0, 2009, [])]))
abbrev b_Mo_styleOpen_at_f4 : ByteArray := prog_15_method_216_code
def y_Mo_styleOpen_at_f4 : MethodName := ⟨"DrawingHouseModel", "styleOpen", "()V"⟩
abbrev z_Mo_styleOpen_at_f4 : List Cond := Cond.code y_Mo_styleOpen_at_f4 b_Mo_styleOpen_at_f4 1 none :: lw_g
def e_Mo_styleOpen_at_f4 : en_T := ([(2, 0, 0, [150])], none, false, 6, 0, 0, [([(2, 0, 0, [150]), (0, 4, 4, []), (0, 0, 2009, []), (0, 5, 5, [])], [], [], [((0, 159), 3)], [], [])], [((0, 159), (0, 0, 13, []))], (0, [(13, 8), (13, 9), (13, 158), (13, 159)], [(20, [0], [50, 2, 1, 158, 157, 160, 2, 12, 0, 7, 4, 3, 2, 0, 158, 0, 1, 2, 0, 157, 2, 7, 0, 3, 2, 0, 157, 0, 2010, 3, 14, 1, 10, 3, 0, 160, 5, 3, 2, 0, 157, 0, 1, 0, 0, 1, 10, 3, 0, 160, 5, 3, 2, 0, 157, 0, 1, 0, 4]), (20, [0, 2], [30, 0, 1, 1, 158, -1, 0, 0]), (20, [0, 2], [30, 0, -1, 1, 158, 1, 0, 0]), (20, [0], [50, 1, 1, 158, 160, 7, 6, 3, 0, 160, 2, 0, 158, 0, 0]), (20, [0], [50, 1, 1, 158, 160, 7, 6, 3, 0, 160, 2, 0, 158, 0, 4]), (20, [0], [30, 4, 1, 1, 159]), (20, [0], [30, -4, -1, 1, 159])], [(20, [0], [50, 2, 1, 158, 157, 160, 2, 12, 0, 7, 4, 3, 2, 0, 158, 0, 1, 2, 0, 157, 2, 7, 0, 3, 2, 0, 157, 0, 2010, 3, 14, 1, 10, 3, 0, 160, 5, 3, 2, 0, 157, 0, 1, 0, 0, 1, 10, 3, 0, 160, 5, 3, 2, 0, 157, 0, 1, 0, 4]), (20, [2, 0], [30, -1, 1, 0, 0, -1, 1, 158]), (20, [0], [30, 5, 1, 1, 159]), (20, [0], [30, -5, -1, 1, 159])], [(0, 0, 2009, [])]))
abbrev b_Mo_styleOpen_at_f5 : ByteArray := prog_15_method_216_code
def y_Mo_styleOpen_at_f5 : MethodName := ⟨"DrawingHouseModel", "styleOpen", "()V"⟩
abbrev z_Mo_styleOpen_at_f5 : List Cond := Cond.code y_Mo_styleOpen_at_f5 b_Mo_styleOpen_at_f5 1 none :: lw_g
def e_Mo_styleOpen_at_f5 : en_T := ([(2, 0, 0, [150])], none, false, 6, 0, 0, [([(2, 0, 0, [150]), (0, 5, 5, []), (0, 0, 2009, []), (0, 6, 6, [])], [], [], [((0, 159), 3)], [], [])], [((0, 159), (0, 0, 13, []))], (0, [(13, 8), (13, 9), (13, 158), (13, 159)], [(20, [0], [50, 2, 1, 158, 157, 160, 2, 12, 0, 7, 4, 3, 2, 0, 158, 0, 1, 2, 0, 157, 2, 7, 0, 3, 2, 0, 157, 0, 2010, 3, 14, 1, 10, 3, 0, 160, 5, 3, 2, 0, 157, 0, 1, 0, 0, 1, 10, 3, 0, 160, 5, 3, 2, 0, 157, 0, 1, 0, 4]), (20, [0, 2], [30, 0, 1, 1, 158, -1, 0, 0]), (20, [0, 2], [30, 0, -1, 1, 158, 1, 0, 0]), (20, [0], [50, 1, 1, 158, 160, 7, 6, 3, 0, 160, 2, 0, 158, 0, 0]), (20, [0], [50, 1, 1, 158, 160, 7, 6, 3, 0, 160, 2, 0, 158, 0, 4]), (20, [0], [30, 5, 1, 1, 159]), (20, [0], [30, -5, -1, 1, 159])], [(20, [0], [50, 2, 1, 158, 157, 160, 2, 12, 0, 7, 4, 3, 2, 0, 158, 0, 1, 2, 0, 157, 2, 7, 0, 3, 2, 0, 157, 0, 2010, 3, 14, 1, 10, 3, 0, 160, 5, 3, 2, 0, 157, 0, 1, 0, 0, 1, 10, 3, 0, 160, 5, 3, 2, 0, 157, 0, 1, 0, 4]), (20, [2, 0], [30, -1, 1, 0, 0, -1, 1, 158]), (20, [0], [30, 6, 1, 1, 159]), (20, [0], [30, -6, -1, 1, 159])], [(0, 0, 2009, [])]))
abbrev b_Mo_styleOpen_at_f6 : ByteArray := prog_15_method_216_code
def y_Mo_styleOpen_at_f6 : MethodName := ⟨"DrawingHouseModel", "styleOpen", "()V"⟩
abbrev z_Mo_styleOpen_at_f6 : List Cond := Cond.code y_Mo_styleOpen_at_f6 b_Mo_styleOpen_at_f6 1 none :: lw_g
def e_Mo_styleOpen_at_f6 : en_T := ([(2, 0, 0, [150])], none, false, 6, 0, 0, [([(2, 0, 0, [150]), (0, 6, 6, []), (0, 0, 2009, []), (0, 7, 7, [])], [], [], [((0, 159), 3)], [], [])], [((0, 159), (0, 0, 13, []))], (0, [(13, 8), (13, 9), (13, 158), (13, 159)], [(20, [0], [50, 2, 1, 158, 157, 160, 2, 12, 0, 7, 4, 3, 2, 0, 158, 0, 1, 2, 0, 157, 2, 7, 0, 3, 2, 0, 157, 0, 2010, 3, 14, 1, 10, 3, 0, 160, 5, 3, 2, 0, 157, 0, 1, 0, 0, 1, 10, 3, 0, 160, 5, 3, 2, 0, 157, 0, 1, 0, 4]), (20, [0, 2], [30, 0, 1, 1, 158, -1, 0, 0]), (20, [0, 2], [30, 0, -1, 1, 158, 1, 0, 0]), (20, [0], [50, 1, 1, 158, 160, 7, 6, 3, 0, 160, 2, 0, 158, 0, 0]), (20, [0], [50, 1, 1, 158, 160, 7, 6, 3, 0, 160, 2, 0, 158, 0, 4]), (20, [0], [30, 6, 1, 1, 159]), (20, [0], [30, -6, -1, 1, 159])], [(20, [0], [50, 2, 1, 158, 157, 160, 2, 12, 0, 7, 4, 3, 2, 0, 158, 0, 1, 2, 0, 157, 2, 7, 0, 3, 2, 0, 157, 0, 2010, 3, 14, 1, 10, 3, 0, 160, 5, 3, 2, 0, 157, 0, 1, 0, 0, 1, 10, 3, 0, 160, 5, 3, 2, 0, 157, 0, 1, 0, 4]), (20, [2, 0], [30, -1, 1, 0, 0, -1, 1, 158]), (20, [0], [30, 7, 1, 1, 159]), (20, [0], [30, -7, -1, 1, 159])], [(0, 0, 2009, [])]))
abbrev b_Mo_styleOpen_at_f7 : ByteArray := prog_15_method_216_code
def y_Mo_styleOpen_at_f7 : MethodName := ⟨"DrawingHouseModel", "styleOpen", "()V"⟩
abbrev z_Mo_styleOpen_at_f7 : List Cond := Cond.code y_Mo_styleOpen_at_f7 b_Mo_styleOpen_at_f7 1 none :: lw_g
def e_Mo_styleOpen_at_f7 : en_T := ([(2, 0, 0, [150])], none, false, 6, 0, 0, [([(2, 0, 0, [150]), (0, 7, 7, []), (0, 0, 2009, []), (0, 8, 8, [])], [], [], [((0, 159), 3)], [], [])], [((0, 159), (0, 0, 13, []))], (0, [(13, 8), (13, 9), (13, 158), (13, 159)], [(20, [0], [50, 2, 1, 158, 157, 160, 2, 12, 0, 7, 4, 3, 2, 0, 158, 0, 1, 2, 0, 157, 2, 7, 0, 3, 2, 0, 157, 0, 2010, 3, 14, 1, 10, 3, 0, 160, 5, 3, 2, 0, 157, 0, 1, 0, 0, 1, 10, 3, 0, 160, 5, 3, 2, 0, 157, 0, 1, 0, 4]), (20, [0, 2], [30, 0, 1, 1, 158, -1, 0, 0]), (20, [0, 2], [30, 0, -1, 1, 158, 1, 0, 0]), (20, [0], [50, 1, 1, 158, 160, 7, 6, 3, 0, 160, 2, 0, 158, 0, 0]), (20, [0], [50, 1, 1, 158, 160, 7, 6, 3, 0, 160, 2, 0, 158, 0, 4]), (20, [0], [30, 7, 1, 1, 159]), (20, [0], [30, -7, -1, 1, 159])], [(20, [0], [50, 2, 1, 158, 157, 160, 2, 12, 0, 7, 4, 3, 2, 0, 158, 0, 1, 2, 0, 157, 2, 7, 0, 3, 2, 0, 157, 0, 2010, 3, 14, 1, 10, 3, 0, 160, 5, 3, 2, 0, 157, 0, 1, 0, 0, 1, 10, 3, 0, 160, 5, 3, 2, 0, 157, 0, 1, 0, 4]), (20, [2, 0], [30, -1, 1, 0, 0, -1, 1, 158]), (20, [0], [30, 8, 1, 1, 159]), (20, [0], [30, -8, -1, 1, 159])], [(0, 0, 2009, [])]))
abbrev b_Mo_styleOpen_at_f8 : ByteArray := prog_15_method_216_code
def y_Mo_styleOpen_at_f8 : MethodName := ⟨"DrawingHouseModel", "styleOpen", "()V"⟩
abbrev z_Mo_styleOpen_at_f8 : List Cond := Cond.code y_Mo_styleOpen_at_f8 b_Mo_styleOpen_at_f8 1 none :: lw_g
def e_Mo_styleOpen_at_f8 : en_T := ([(2, 0, 0, [150])], none, false, 6, 0, 0, [([(2, 0, 0, [150]), (0, 8, 8, []), (0, 0, 2009, []), (0, 9, 9, [])], [], [], [((0, 159), 3)], [], [])], [((0, 159), (0, 0, 13, []))], (0, [(13, 8), (13, 9), (13, 158), (13, 159)], [(20, [0], [50, 2, 1, 158, 157, 160, 2, 12, 0, 7, 4, 3, 2, 0, 158, 0, 1, 2, 0, 157, 2, 7, 0, 3, 2, 0, 157, 0, 2010, 3, 14, 1, 10, 3, 0, 160, 5, 3, 2, 0, 157, 0, 1, 0, 0, 1, 10, 3, 0, 160, 5, 3, 2, 0, 157, 0, 1, 0, 4]), (20, [0, 2], [30, 0, 1, 1, 158, -1, 0, 0]), (20, [0, 2], [30, 0, -1, 1, 158, 1, 0, 0]), (20, [0], [50, 1, 1, 158, 160, 7, 6, 3, 0, 160, 2, 0, 158, 0, 0]), (20, [0], [50, 1, 1, 158, 160, 7, 6, 3, 0, 160, 2, 0, 158, 0, 4]), (20, [0], [30, 8, 1, 1, 159]), (20, [0], [30, -8, -1, 1, 159])], [(20, [0], [50, 2, 1, 158, 157, 160, 2, 12, 0, 7, 4, 3, 2, 0, 158, 0, 1, 2, 0, 157, 2, 7, 0, 3, 2, 0, 157, 0, 2010, 3, 14, 1, 10, 3, 0, 160, 5, 3, 2, 0, 157, 0, 1, 0, 0, 1, 10, 3, 0, 160, 5, 3, 2, 0, 157, 0, 1, 0, 4]), (20, [2, 0], [30, -1, 1, 0, 0, -1, 1, 158]), (20, [0], [30, 9, 1, 1, 159]), (20, [0], [30, -9, -1, 1, 159])], [(0, 0, 2009, [])]))
abbrev b_Mo_styleOpen_at_f9 : ByteArray := prog_15_method_216_code
def y_Mo_styleOpen_at_f9 : MethodName := ⟨"DrawingHouseModel", "styleOpen", "()V"⟩
abbrev z_Mo_styleOpen_at_f9 : List Cond := Cond.code y_Mo_styleOpen_at_f9 b_Mo_styleOpen_at_f9 1 none :: lw_g
def e_Mo_styleOpen_at_f9 : en_T := ([(2, 0, 0, [150])], none, false, 6, 0, 0, [([(2, 0, 0, [150]), (0, 9, 9, []), (0, 0, 2009, []), (0, 10, 10, [])], [], [], [((0, 159), 3)], [], [])], [((0, 159), (0, 0, 13, []))], (0, [(13, 8), (13, 9), (13, 158), (13, 159)], [(20, [0], [50, 2, 1, 158, 157, 160, 2, 12, 0, 7, 4, 3, 2, 0, 158, 0, 1, 2, 0, 157, 2, 7, 0, 3, 2, 0, 157, 0, 2010, 3, 14, 1, 10, 3, 0, 160, 5, 3, 2, 0, 157, 0, 1, 0, 0, 1, 10, 3, 0, 160, 5, 3, 2, 0, 157, 0, 1, 0, 4]), (20, [0, 2], [30, 0, 1, 1, 158, -1, 0, 0]), (20, [0, 2], [30, 0, -1, 1, 158, 1, 0, 0]), (20, [0], [50, 1, 1, 158, 160, 7, 6, 3, 0, 160, 2, 0, 158, 0, 0]), (20, [0], [50, 1, 1, 158, 160, 7, 6, 3, 0, 160, 2, 0, 158, 0, 4]), (20, [0], [30, 9, 1, 1, 159]), (20, [0], [30, -9, -1, 1, 159])], [(20, [0], [50, 2, 1, 158, 157, 160, 2, 12, 0, 7, 4, 3, 2, 0, 158, 0, 1, 2, 0, 157, 2, 7, 0, 3, 2, 0, 157, 0, 2010, 3, 14, 1, 10, 3, 0, 160, 5, 3, 2, 0, 157, 0, 1, 0, 0, 1, 10, 3, 0, 160, 5, 3, 2, 0, 157, 0, 1, 0, 4]), (20, [2, 0], [30, -1, 1, 0, 0, -1, 1, 158]), (20, [0], [30, 10, 1, 1, 159]), (20, [0], [30, -10, -1, 1, 159])], [(0, 0, 2009, [])]))
abbrev b_Mo_take : ByteArray := prog_15_method_10_code
def y_Mo_take : MethodName := ⟨"DrawingHouseModel", "take", "(I)V"⟩
abbrev z_Mo_take : List Cond := Cond.code y_Mo_take b_Mo_take 2 none :: lw_g
def e_Mo_take : en_T := ([(2, 0, 0, [150]), (0, 0, 3, [])], none, false, 7, 0, 0, [], [], (0, [(13, 5)], [], [(20, [0, 1], [50, 1, 1, 5, 3, 1, 3, 2, 0, 5, 4, 6, 6, 2, 0, 16709, 1, 1, 6, 2, 0, 539, 3, 0, 3, 1, 1])], []))
abbrev b_Mo_worst : ByteArray := prog_15_method_169_code
def y_Mo_worst : MethodName := ⟨"DrawingHouseModel", "worst", "(IIIIII)V"⟩
abbrev z_Mo_worst : List Cond := Cond.code y_Mo_worst b_Mo_worst 20 none :: lw_g
def e_Mo_worst : en_T := ([(2, 0, 0, [150]), (0, 0, 39, []), (0, 1, 40, []), (0, -2147483648, 2147483647, []), (0, -2147483648, 2147483647, []), (0, -2147483648, 2147483647, []), (0, -2147483648, 2147483647, [])], none, false, 7, 0, 0, [], [], (0, [(13, 133), (13, 134)], [], [], []))
abbrev b_Mo_writeName : ByteArray := prog_15_method_235_code
def y_Mo_writeName : MethodName := ⟨"DrawingHouseModel", "writeName", "(II)V"⟩
abbrev z_Mo_writeName : List Cond := Cond.code y_Mo_writeName b_Mo_writeName 4 none :: lw_g
def e_Mo_writeName : en_T := ([(2, 0, 0, [150]), (0, 3, 66812, []), (0, 0, 8, [])], none, false, 7, 0, 0, [], [], (237142198758023568227473377297792835283496928595231875152809132048206089502588928, [(13, 170)], [(20, [0, 3], [30, 0, 1, 1, 170, -1, 0, 0])], [(20, [0, 3], [30, 8, 1, 1, 170, -1, 0, 0])], [(0, 0, 99999992, [])]))
abbrev b_Mo_writeNumber : ByteArray := prog_15_method_234_code
def y_Mo_writeNumber : MethodName := ⟨"DrawingHouseModel", "writeNumber", "(I)V"⟩
abbrev z_Mo_writeNumber : List Cond := Cond.code y_Mo_writeNumber b_Mo_writeNumber 6 none :: lw_g
def e_Mo_writeNumber : en_T := ([(2, 0, 0, [150]), (0, -2147483648, 2147483647, [])], none, false, 7, 0, 0, [], [], (237142198758023568227473377297792835283496928595231875152809132048206089502588928, [(13, 170)], [(20, [0, 2], [30, 0, 1, 1, 170, -1, 0, 0])], [(20, [0, 2], [30, 13, 1, 1, 170, -1, 0, 0])], [(0, 0, 99999987, [])]))
abbrev b_Dr_coordinate : ByteArray := prog_2_method_5_code
def y_Dr_coordinate : MethodName := ⟨"DrawingHouse$Drawing", "coordinate", "(III)I"⟩
abbrev z_Dr_coordinate : List Cond := Cond.code y_Dr_coordinate b_Dr_coordinate 4 (some .int) :: lw_g
def e_Dr_coordinate : en_T := ([(2, 0, 0, [0]), (0, -2147483648, 2147483647, []), (0, -2147483648, 2147483647, []), (0, -2147483648, 2147483647, [])], some (0, -2147483648, 2147483647, []), true, 7, 0, 0, [], [], (0, [], [], [], []))
abbrev b_Dr_countNodePairs : ByteArray := prog_2_method_27_code
def y_Dr_countNodePairs : MethodName := ⟨"DrawingHouse$Drawing", "countNodePairs", "(Z)J"⟩
abbrev z_Dr_countNodePairs : List Cond := Cond.code y_Dr_countNodePairs b_Dr_countNodePairs 8 (some .long) :: lw_g
def e_Dr_countNodePairs : en_T := ([(2, 0, 0, [0]), (0, 0, 1, [])], some (1, -9223372036854775808, 9223372036854775807, []), true, 7, 0, 0, [], [], (0, [], [], [], []))
abbrev b_Dr_countSlanted : ByteArray := prog_2_method_32_code
def y_Dr_countSlanted : MethodName := ⟨"DrawingHouse$Drawing", "countSlanted", "()J"⟩
abbrev z_Dr_countSlanted : List Cond := Cond.code y_Dr_countSlanted b_Dr_countSlanted 5 (some .long) :: lw_g
def e_Dr_countSlanted : en_T := ([(2, 0, 0, [0])], some (1, -9223372036854775808, 9223372036854775807, []), true, 7, 0, 0, [], [], (0, [], [], [], []))
abbrev b_Dr_isInBox : ByteArray := prog_2_method_12_code
def y_Dr_isInBox : MethodName := ⟨"DrawingHouse$Drawing", "isInBox", "(III)Z"⟩
abbrev z_Dr_isInBox : List Cond := Cond.code y_Dr_isInBox b_Dr_isInBox 4 (some .boolean) :: lw_g
def e_Dr_isInBox : en_T := ([(2, 0, 0, [0]), (0, 0, 23, []), (0, -2147483648, 2147483647, []), (0, -2147483648, 2147483647, [])], some (0, 0, 1, []), true, 7, 0, 0, [([(2, 0, 0, [0]), (0, 0, 23, []), (0, -2147483648, 2147483647, []), (0, -2147483648, 2147483647, []), (0, 0, 0, [])], [], [4], [], [], []), ([(2, 0, 0, [0]), (0, 0, 23, []), (0, -2147483648, 2147483647, []), (0, -2147483648, 2147483647, []), (0, 1, 1, [])], [], [4], [], [], [])], [], (0, [], [], [], []))
abbrev b_Dr_leastTriangle : ByteArray := prog_2_method_35_code
def y_Dr_leastTriangle : MethodName := ⟨"DrawingHouse$Drawing", "leastTriangle", "()J"⟩
abbrev z_Dr_leastTriangle : List Cond := Cond.code y_Dr_leastTriangle b_Dr_leastTriangle 11 (some .long) :: lw_g
def e_Dr_leastTriangle : en_T := ([(2, 0, 0, [0])], some (1, -1, 9223372034707292160, []), true, 6, 0, 0, [], [], (0, [], [], [], []))
abbrev b_Dr_move : ByteArray := prog_2_method_9_code
def y_Dr_move : MethodName := ⟨"DrawingHouse$Drawing", "move", "(IIII)Z"⟩
abbrev z_Dr_move : List Cond := Cond.code y_Dr_move b_Dr_move 5 (some .boolean) :: lw_g
def e_Dr_move : en_T := ([(2, 0, 0, [0]), (0, -2147483648, 2147483647, []), (0, -2147483648, 2147483647, []), (0, -2147483648, 2147483647, []), (0, -2147483648, 2147483647, [])], some (0, 0, 1, []), false, 7, 0, 0, [], [], (442368, [], [], [], []))
abbrev b_Dr_overlap : ByteArray := prog_2_method_26_code
def y_Dr_overlap : MethodName := ⟨"DrawingHouse$Drawing", "overlap", "(IIII)I"⟩
abbrev z_Dr_overlap : List Cond := Cond.code y_Dr_overlap b_Dr_overlap 4 (some .int) :: lw_g
def e_Dr_overlap : en_T := ([(0, -2147483648, 2147483647, []), (0, -2147483648, 2147483647, []), (0, -2147483648, 2147483647, []), (0, -2147483648, 2147483647, [])], some (0, -2147483648, 2147483647, []), true, 6, 0, 0, [([(0, -2147483648, 2147483647, []), (0, -2147483648, 2147483647, []), (0, -2147483648, 2147483647, []), (0, -2147483648, 2147483647, []), (0, -2147483648, 2147483647, [])], [], [4], [], [], [])], [], (0, [], [], [], []))
abbrev b_Dr_reportArea : ByteArray := prog_2_method_8_code
def y_Dr_reportArea : MethodName := ⟨"DrawingHouse$Drawing", "reportArea", "(II)I"⟩
abbrev z_Dr_reportArea : List Cond := Cond.code y_Dr_reportArea b_Dr_reportArea 3 (some .int) :: lw_g
def e_Dr_reportArea : en_T := ([(2, 0, 0, [0]), (0, -2147483648, 2147483647, []), (0, -2147483648, 2147483647, [])], some (0, -2147483648, 2147483647, []), true, 7, 0, 0, [], [], (0, [], [], [], []))
abbrev b_Dr_reportLayers : ByteArray := prog_2_method_7_code
def y_Dr_reportLayers : MethodName := ⟨"DrawingHouse$Drawing", "reportLayers", "(II)I"⟩
abbrev z_Dr_reportLayers : List Cond := Cond.code y_Dr_reportLayers b_Dr_reportLayers 3 (some .int) :: lw_g
def e_Dr_reportLayers : en_T := ([(2, 0, 0, [0]), (0, -2147483648, 2147483647, []), (0, -2147483648, 2147483647, [])], some (0, -2147483648, 2147483647, []), true, 7, 0, 0, [], [], (0, [], [], [], []))
abbrev b_Dr_sideOf : ByteArray := prog_2_method_23_code
def y_Dr_sideOf : MethodName := ⟨"DrawingHouse$Drawing", "sideOf", "(IIII)J"⟩
abbrev z_Dr_sideOf : List Cond := Cond.code y_Dr_sideOf b_Dr_sideOf 13 (some .long) :: lw_g
def e_Dr_sideOf : en_T := ([(2, 0, 0, [0]), (0, 0, 47, []), (0, 0, 24, []), (0, -2147483648, 2147483647, []), (0, -2147483648, 2147483647, [])], some (1, -9223372036854775808, 9223372036854775807, []), true, 7, 0, 0, [], [], (0, [], [], [], []))
abbrev b_Dr_take : ByteArray := prog_2_method_17_code
def y_Dr_take : MethodName := ⟨"DrawingHouse$Drawing", "take", "(II)V"⟩
abbrev z_Dr_take : List Cond := Cond.code y_Dr_take b_Dr_take 3 none :: lw_g
def e_Dr_take : en_T := ([(2, 0, 0, [0]), (0, -2147483648, 2147483647, []), (0, -2147483648, 2147483647, [])], none, false, 6, 0, 0, [], [], (0, [(0, 17), (0, 18), (0, 19), (0, 20)], [], [], []))
abbrev b_Em_joinBlocksAt : ByteArray := prog_3_method_19_code
def y_Em_joinBlocksAt : MethodName := ⟨"DrawingHouse$Embedder", "joinBlocksAt", "(II)V"⟩
abbrev z_Em_joinBlocksAt : List Cond := Cond.code y_Em_joinBlocksAt b_Em_joinBlocksAt 8 none :: lw_g
def e_Em_joinBlocksAt : en_T := ([(2, 0, 0, [1]), (0, 0, 24, []), (0, 0, 72, [])], none, false, 7, 0, 0, [], [((0, 0), (2, 0, 0, [5, 149]))], (66902235595591869482635594159447353623314432, [], [], [], []))
abbrev b_Em_turnByCycles : ByteArray := prog_3_method_18_code
def y_Em_turnByCycles : MethodName := ⟨"DrawingHouse$Embedder", "turnByCycles", "()V"⟩
abbrev z_Em_turnByCycles : List Cond := Cond.code y_Em_turnByCycles b_Em_turnByCycles 9 none :: lw_g
def e_Em_turnByCycles : en_T := ([(2, 0, 0, [1])], none, false, 7, 0, 0, [], [((0, 0), (2, 0, 0, [5, 149]))], (8589934592, [], [], [], []))
abbrev b_Fa_costAhead : ByteArray := prog_4_method_22_code
def y_Fa_costAhead : MethodName := ⟨"DrawingHouse$Facts", "costAhead", "(LDrawingHouse$Graph;III)I"⟩
abbrev z_Fa_costAhead : List Cond := Cond.code y_Fa_costAhead b_Fa_costAhead 7 (some .int) :: lw_g
def e_Fa_costAhead : en_T := ([(2, 0, 0, [2]), (2, 0, 0, [3]), (0, 0, 127, []), (0, 0, 6, []), (0, 2, 7, [])], some (0, -2147483648, 2147483647, []), true, 8, 0, 0, [], [], (0, [], [], [], []))
abbrev b_Fa_learnCore : ByteArray := prog_4_method_16_code
def y_Fa_learnCore : MethodName := ⟨"DrawingHouse$Facts", "learnCore", "(LDrawingHouse$Graph;)V"⟩
abbrev z_Fa_learnCore : List Cond := Cond.code y_Fa_learnCore b_Fa_learnCore 6 none :: lw_g
def e_Fa_learnCore : en_T := ([(2, 0, 0, [2]), (2, 0, 0, [3])], none, false, 7, 0, 0, [], [], (1099511627776, [], [], [], []))
abbrev b_Fa_learnStrong : ByteArray := prog_4_method_14_code
def y_Fa_learnStrong : MethodName := ⟨"DrawingHouse$Facts", "learnStrong", "(LDrawingHouse$Graph;)V"⟩
abbrev z_Fa_learnStrong : List Cond := Cond.code y_Fa_learnStrong b_Fa_learnStrong 3 none :: lw_g
def e_Fa_learnStrong : en_T := ([(2, 0, 0, [2]), (2, 0, 0, [3])], none, false, 7, 0, 0, [], [], (26938034880512, [(2, 3)], [], [], []))
abbrev b_Gr_relink : ByteArray := prog_5_method_17_code
def y_Gr_relink : MethodName := ⟨"DrawingHouse$Graph", "relink", "()V"⟩
abbrev z_Gr_relink : List Cond := Cond.code y_Gr_relink b_Gr_relink 2 none :: lw_g
def e_Gr_relink : en_T := ([(2, 0, 0, [3])], none, false, 7, 0, 0, [], [], (1729382256910270464, [], [], [], []))
abbrev b_Ne_edgeAround : ByteArray := prog_7_method_12_code
def y_Ne_edgeAround : MethodName := ⟨"DrawingHouse$Net", "edgeAround", "(II)I"⟩
abbrev z_Ne_edgeAround : List Cond := Cond.code y_Ne_edgeAround b_Ne_edgeAround 5 (some .int) :: lw_g
def e_Ne_edgeAround : en_T := ([(2, 0, 0, [5]), (0, 0, 2147483647, []), (0, 0, 2147483647, [])], some (0, -1, 71, []), true, 7, 0, 0, [], [], (0, [], [], [], []))
abbrev b_Ne_insertAhead : ByteArray := prog_7_method_9_code
def y_Ne_insertAhead : MethodName := ⟨"DrawingHouse$Net", "insertAhead", "(III)V"⟩
abbrev z_Ne_insertAhead : List Cond := Cond.code y_Ne_insertAhead b_Ne_insertAhead 6 none :: lw_g
def e_Ne_insertAhead : en_T := ([(2, 0, 0, [5]), (0, 0, 71, []), (0, 0, 23, []), (0, -1, 71, [])], none, false, 8, 0, 0, [], [], (19342813113834066795298816, [], [], [], []))
abbrev b_Ne_traceFaces : ByteArray := prog_7_method_11_code
def y_Ne_traceFaces : MethodName := ⟨"DrawingHouse$Net", "traceFaces", "()V"⟩
abbrev z_Ne_traceFaces : List Cond := Cond.code y_Ne_traceFaces b_Ne_traceFaces 6 none :: lw_g
def e_Ne_traceFaces : en_T := ([(2, 0, 0, [5, 149])], none, false, 7, 0, 0, [], [], (624420865558857448504598878821507992435818496, [(5, 13)], [], [], []))
abbrev b_Pl_gatherItems : ByteArray := prog_8_method_11_code
def y_Pl_gatherItems : MethodName := ⟨"DrawingHouse$PlainWays", "gatherItems", "(I)V"⟩
abbrev z_Pl_gatherItems : List Cond := Cond.code y_Pl_gatherItems b_Pl_gatherItems 3 none :: lw_g
def e_Pl_gatherItems : en_T := ([(2, 0, 0, [6]), (0, 0, 7, [])], none, false, 7, 0, 0, [], [((0, 0), (2, 0, 0, [3]))], (118842243771396506390315925504, [(6, 11)], [], [], []))
abbrev b_Pl_placeSideBySide : ByteArray := prog_8_method_7_code
def y_Pl_placeSideBySide : MethodName := ⟨"DrawingHouse$PlainWays", "placeSideBySide", "(I)I"⟩
abbrev z_Pl_placeSideBySide : List Cond := Cond.code y_Pl_placeSideBySide b_Pl_placeSideBySide 9 (some .int) :: lw_g
def e_Pl_placeSideBySide : en_T := ([(2, 0, 0, [6]), (0, 0, 24, [])], some (0, 0, 16777215, []), false, 7, 0, 0, [], [((0, 0), (2, 0, 0, [3])), ((0, 1), (2, 0, 0, [0]))], (16384, [], [], [], []))
abbrev b_Pl_ringCrossings : ByteArray := prog_8_method_20_code
def y_Pl_ringCrossings : MethodName := ⟨"DrawingHouse$PlainWays", "ringCrossings", "()I"⟩
abbrev z_Pl_ringCrossings : List Cond := Cond.code y_Pl_ringCrossings b_Pl_ringCrossings 4 (some .int) :: lw_g
def e_Pl_ringCrossings : en_T := ([(2, 0, 0, [6])], some (0, -2147483648, 2147483647, []), true, 7, 0, 0, [], [((0, 0), (2, 0, 0, [3]))], (0, [], [], [], []))
abbrev b_Re_isNameByte : ByteArray := prog_10_method_8_code
def y_Re_isNameByte : MethodName := ⟨"DrawingHouse$Reader", "isNameByte", "(I)Z"⟩
abbrev z_Re_isNameByte : List Cond := Cond.code y_Re_isNameByte b_Re_isNameByte 1 (some .boolean) :: lw_g
def e_Re_isNameByte : en_T := ([(0, -128, 127, [])], some (0, 0, 1, []), true, 7, 0, 0, [([(0, -128, 47, []), (0, 0, 0, [])], [], [1], [], [], []), ([(0, 58, 64, []), (0, 0, 0, [])], [], [1], [], [], []), ([(0, 48, 57, []), (0, 1, 1, [])], [], [1], [], [], []), ([(0, 91, 96, []), (0, 0, 0, [])], [], [1], [], [], []), ([(0, 95, 95, []), (0, 1, 1, [])], [], [1], [], [], []), ([(0, 65, 90, []), (0, 1, 1, [])], [], [1], [], [], []), ([(0, 97, 122, []), (0, 1, 1, [])], [], [1], [], [], []), ([(0, 123, 127, []), (0, 0, 0, [])], [], [1], [], [], [])], [], (0, [], [], [], []))
abbrev b_Ro_readWay : ByteArray := prog_11_method_10_code
def y_Ro_readWay : MethodName := ⟨"DrawingHouse$Router", "readWay", "()V"⟩
abbrev z_Ro_readWay : List Cond := Cond.code y_Ro_readWay b_Ro_readWay 6 none :: lw_g
def e_Ro_readWay : en_T := ([(2, 0, 0, [9])], none, false, 8, 0, 0, [], [], (249230249209671726169463823802564608, [(9, 17)], [(20, [0], [50, 2, 0, 4, 5, 2, 7, 0, 2, 0, 1, 2, 0, 4, 2, 7, 0, 2, 0, 1, 2, 0, 5, 0, 8, 6, 3, 2, 0, 4, 2, 0, 5, 0, 6000]), (20, [0], [50, 3, 0, 6, 4, 5, 0, 7, 4, 3, 2, 0, 6, 0, 1, 6, 3, 2, 0, 4, 2, 0, 5]), (20, [0], [30, 0, 1, 1, 17])], [], []))
abbrev b_Sy_lookAtEdge : ByteArray := prog_13_method_20_code
def y_Sy_lookAtEdge : MethodName := ⟨"DrawingHouse$Styler", "lookAtEdge", "(LDrawingHouse$Graph;LDrawingHouse$Facts;LDrawingHouse$Drawing;I)V"⟩
abbrev z_Sy_lookAtEdge : List Cond := Cond.code y_Sy_lookAtEdge b_Sy_lookAtEdge 8 none :: lw_g
def e_Sy_lookAtEdge : en_T := ([(2, 0, 0, [11]), (2, 0, 0, [3]), (2, 0, 0, [2]), (2, 0, 0, [0]), (0, 0, 47, [])], none, false, 7, 0, 0, [], [], (1361129467683753853853498429727072845824, [], [], [], []))
abbrev b_Mo_barX : ByteArray := prog_15_method_154_code
def y_Mo_barX : MethodName := ⟨"DrawingHouseModel", "barX", "(I)I"⟩
abbrev z_Mo_barX : List Cond := Cond.code y_Mo_barX b_Mo_barX 2 (some .int) :: lw_g
def e_Mo_barX : en_T := ([(2, 0, 0, [150]), (0, 0, 79, [])], some (0, -1000000, 1000000, []), true, 8, 0, 0, [([(2, 0, 0, [150]), (0, 1, 79, []), (0, -1000000, 1000000, [])], [], [2], [], [], []), ([(2, 0, 0, [150]), (0, 0, 0, []), (0, -1, -1, [])], [], [2], [], [], [])], [], (0, [], [], [], []))
abbrev b_Mo_bound : ByteArray := prog_15_method_209_code
def y_Mo_bound : MethodName := ⟨"DrawingHouseModel", "bound", "(II)V"⟩
abbrev z_Mo_bound : List Cond := Cond.code y_Mo_bound b_Mo_bound 3 none :: lw_g
def e_Mo_bound : en_T := ([(2, 0, 0, [150]), (0, -2147483648, 2147483647, []), (0, -2147483648, 2147483647, [])], none, false, 7, 0, 0, [], [], (0, [(13, 153), (13, 154), (13, 155), (13, 156)], [], [], []))
abbrev b_Mo_fits : ByteArray := prog_15_method_60_code
def y_Mo_fits : MethodName := ⟨"DrawingHouseModel", "fits", "(II)Z"⟩
abbrev z_Mo_fits : List Cond := Cond.code y_Mo_fits b_Mo_fits 5 (some .boolean) :: lw_g
def e_Mo_fits : en_T := ([(2, 0, 0, [150]), (0, 0, 23, []), (0, 0, 23, [])], some (0, 0, 1, []), true, 7, 0, 0, [], [], (0, [], [], [], []))
abbrev b_Mo_from : ByteArray := prog_15_method_122_code
def y_Mo_from : MethodName := ⟨"DrawingHouseModel", "from", "(I)I"⟩
abbrev z_Mo_from : List Cond := Cond.code y_Mo_from b_Mo_from 2 (some .int) :: lw_g
def e_Mo_from : en_T := ([(2, 0, 0, [150]), (0, 0, 47, [])], some (0, 0, 23, []), true, 7, 0, 0, [([(2, 0, 0, [150]), (0, 0, 47, []), (0, 0, 23, [])], [], [2], [], [], [])], [], (0, [], [], [], []))
abbrev b_Mo_goRound : ByteArray := prog_15_method_90_code
def y_Mo_goRound : MethodName := ⟨"DrawingHouseModel", "goRound", "()V"⟩
abbrev z_Mo_goRound : List Cond := Cond.code y_Mo_goRound b_Mo_goRound 4 none :: lw_g
def e_Mo_goRound : en_T := ([(2, 0, 0, [150])], none, false, 8, 0, 0, [], [], (39844884062513110317317022705908038774087217176773656576, [(13, 53)], [], [], []))
abbrev b_Mo_halfOf : ByteArray := prog_15_method_137_code
def y_Mo_halfOf : MethodName := ⟨"DrawingHouseModel", "halfOf", "(I)I"⟩
abbrev z_Mo_halfOf : List Cond := Cond.code y_Mo_halfOf b_Mo_halfOf 2 (some .int) :: lw_g
def e_Mo_halfOf : en_T := ([(2, 0, 0, [150]), (0, 0, 75, [])], some (0, 0, 9, []), true, 7, 0, 0, [([(2, 0, 0, [150]), (0, 0, 75, []), (0, 0, 0, [])], [], [2], [], [], []), ([(2, 0, 0, [150]), (0, 0, 23, []), (0, 1, 9, [])], [], [2], [], [], [])], [], (0, [], [], [], []))
abbrev b_Mo_has : ByteArray := prog_15_method_22_code
def y_Mo_has : MethodName := ⟨"DrawingHouseModel", "has", "(II)Z"⟩
abbrev z_Mo_has : List Cond := Cond.code y_Mo_has b_Mo_has 3 (some .boolean) :: lw_g
def e_Mo_has : en_T := ([(2, 0, 0, [150]), (0, 0, 47, []), (0, 0, 75, [])], some (0, 0, 1, []), true, 7, 0, 0, [([(2, 0, 0, [150]), (0, 0, 47, []), (0, 0, 23, []), (0, 1, 1, [])], [], [3], [], [], []), ([(2, 0, 0, [150]), (0, 0, 47, []), (0, 0, 75, []), (0, 0, 0, [])], [], [3], [], [], [])], [], (0, [], [], [], []))
abbrev b_Mo_keep : ByteArray := prog_15_method_106_code
def y_Mo_keep : MethodName := ⟨"DrawingHouseModel", "keep", "(II)V"⟩
abbrev z_Mo_keep : List Cond := Cond.code y_Mo_keep b_Mo_keep 5 none :: lw_g
def e_Mo_keep : en_T := ([(2, 0, 0, [150]), (0, 0, 3, []), (0, 0, 7, [])], none, false, 7, 0, 0, [], [], (6179022020771263876900855213470046628350756140644283973632, [], [], [], []))
abbrev b_Mo_mayLeave : ByteArray := prog_15_method_147_code
def y_Mo_mayLeave : MethodName := ⟨"DrawingHouseModel", "mayLeave", "(I)Z"⟩
abbrev z_Mo_mayLeave : List Cond := Cond.code y_Mo_mayLeave b_Mo_mayLeave 4 (some .boolean) :: lw_g
def e_Mo_mayLeave : en_T := ([(2, 0, 0, [150]), (0, 1, 28, [])], some (0, 0, 1, []), true, 8, 0, 0, [], [], (0, [], [], [], []))
abbrev b_Mo_other : ByteArray := prog_15_method_21_code
def y_Mo_other : MethodName := ⟨"DrawingHouseModel", "other", "(II)I"⟩
abbrev z_Mo_other : List Cond := Cond.code y_Mo_other b_Mo_other 3 (some .int) :: lw_g
def e_Mo_other : en_T := ([(2, 0, 0, [150]), (0, 0, 47, []), (0, 0, 23, [])], some (0, 0, 23, []), true, 7, 0, 0, [([(2, 0, 0, [150]), (0, 0, 47, []), (0, 0, 23, []), (0, 0, 23, [])], [], [3], [], [], [])], [], (0, [], [], [], []))
abbrev b_Mo_pieces : ByteArray := prog_15_method_75_code
def y_Mo_pieces : MethodName := ⟨"DrawingHouseModel", "pieces", "()V"⟩
abbrev z_Mo_pieces : List Cond := Cond.code y_Mo_pieces b_Mo_pieces 5 none :: lw_g
def e_Mo_pieces : en_T := ([(2, 0, 0, [150])], none, false, 7, 0, 0, [], [], (47890485652059026823698344598447161988085597568237568, [], [], [], []))
abbrev b_Mo_styleNeed : ByteArray := prog_15_method_215_code
def y_Mo_styleNeed : MethodName := ⟨"DrawingHouseModel", "styleNeed", "(I)V"⟩
abbrev z_Mo_styleNeed : List Cond := Cond.code y_Mo_styleNeed b_Mo_styleNeed 2 none :: lw_g
def e_Mo_styleNeed : en_T := ([(2, 0, 0, [150]), (0, 41, 125, [])], none, false, 7, 0, 0, [], [], (0, [(13, 8), (13, 9), (13, 158)], [(20, [0], [50, 2, 1, 158, 157, 160, 2, 12, 0, 7, 4, 3, 2, 0, 158, 0, 1, 2, 0, 157, 2, 7, 0, 3, 2, 0, 157, 0, 2010, 3, 14, 1, 10, 3, 0, 160, 5, 3, 2, 0, 157, 0, 1, 0, 0, 1, 10, 3, 0, 160, 5, 3, 2, 0, 157, 0, 1, 0, 4]), (20, [0, 2], [30, 0, 1, 1, 158, -1, 0, 0]), (20, [0, 2], [30, 0, -1, 1, 158, 1, 0, 0])], [(20, [0], [50, 2, 1, 158, 157, 160, 2, 12, 0, 7, 4, 3, 2, 0, 158, 0, 1, 2, 0, 157, 2, 7, 0, 3, 2, 0, 157, 0, 2010, 3, 14, 1, 10, 3, 0, 160, 5, 3, 2, 0, 157, 0, 1, 0, 0, 1, 10, 3, 0, 160, 5, 3, 2, 0, 157, 0, 1, 0, 4]), (20, [2, 0], [30, 0, 1, 0, 0, -1, 1, 158])], [(0, 0, 2009, [])]))
abbrev b_Mo_to : ByteArray := prog_15_method_123_code
def y_Mo_to : MethodName := ⟨"DrawingHouseModel", "to", "(I)I"⟩
abbrev z_Mo_to : List Cond := Cond.code y_Mo_to b_Mo_to 2 (some .int) :: lw_g
def e_Mo_to : en_T := ([(2, 0, 0, [150]), (0, 0, 47, [])], some (0, 0, 23, []), true, 7, 0, 0, [([(2, 0, 0, [150]), (0, 0, 47, []), (0, 0, 23, [])], [], [2], [], [], [])], [], (0, [], [], [], []))
abbrev b_Ho_forget : ByteArray := prog_1_method_32_code
def y_Ho_forget : MethodName := ⟨"DrawingHouse", "forget", "(I)V"⟩
abbrev z_Ho_forget : List Cond := Cond.code y_Ho_forget b_Ho_forget 2 none :: lw_g
def e_Ho_forget : en_T := ([(2, 0, 0, [12]), (0, 0, 3, [])], none, false, 7, 0, 0, [], [], (8388608, [(0, 1), (2, 0), (5, 0), (5, 1), (5, 2), (5, 3)], [], [], []))
abbrev b_Ho_group : ByteArray := prog_1_method_8_code
def y_Ho_group : MethodName := ⟨"DrawingHouse", "group", "(III)I"⟩
abbrev z_Ho_group : List Cond := Cond.code y_Ho_group b_Ho_group 4 (some .int) :: lw_g
def e_Ho_group : en_T := ([(2, 0, 0, [12]), (0, -2147483648, 2147483647, []), (0, -2147483648, 2147483647, []), (0, -2147483648, 2147483647, [])], some (0, -2147483648, 2147483647, []), true, 7, 0, 0, [([(2, 0, 0, [12]), (0, -2147483648, -1, []), (0, -2147483648, 2147483647, []), (0, -2147483648, 2147483647, []), (0, -1, -1, [])], [], [4], [], [], []), ([(2, 0, 0, [12]), (0, 4, 2147483647, []), (0, -2147483648, 2147483647, []), (0, -2147483648, 2147483647, []), (0, -1, -1, [])], [], [4], [], [], []), ([(2, 0, 0, [12]), (0, 0, 3, []), (0, -2147483648, -1, []), (0, -2147483648, 2147483647, []), (0, -1, -1, [])], [], [4], [], [], []), ([(2, 0, 0, [12]), (0, 0, 3, []), (0, 0, 2147483647, []), (0, -2147483648, 2147483647, []), (0, -1, -1, [])], [], [4], [], [], []), ([(2, 0, 0, [12]), (0, 0, 3, []), (0, 0, 7, []), (0, -2147483648, 2147483647, []), (0, -1, -1, [])], [], [4], [], [], []), ([(2, 0, 0, [12]), (0, 0, 3, []), (0, 0, 7, []), (0, 0, 0, []), (0, -1, 7, [])], [], [4], [], [], []), ([(2, 0, 0, [12]), (0, 0, 3, []), (0, 0, 7, []), (0, 1, 1, []), (0, 0, 8, [])], [], [4], [], [], []), ([(2, 0, 0, [12]), (0, 0, 3, []), (0, 0, 7, []), (0, 2, 2, []), (0, -2147483648, 2147483647, [])], [], [4], [], [], [])], [], (0, [], [], [], []))
abbrev b_Ho_letter : ByteArray := prog_1_method_9_code
def y_Ho_letter : MethodName := ⟨"DrawingHouse", "letter", "(IIII)I"⟩
abbrev z_Ho_letter : List Cond := Cond.code y_Ho_letter b_Ho_letter 6 (some .int) :: lw_g
def e_Ho_letter : en_T := ([(2, 0, 0, [12]), (0, -2147483648, 2147483647, []), (0, -2147483648, 2147483647, []), (0, -2147483648, 2147483647, []), (0, -2147483648, 2147483647, [])], some (0, -128, 127, []), true, 7, 0, 0, [], [], (0, [], [], [], []))
abbrev b_Ho_mayBecome : ByteArray := prog_1_method_36_code
def y_Ho_mayBecome : MethodName := ⟨"DrawingHouse", "mayBecome", "(LDrawingHouse$Graph;LDrawingHouse$Graph;[II)Z"⟩
abbrev z_Ho_mayBecome : List Cond := Cond.code y_Ho_mayBecome b_Ho_mayBecome 6 (some .boolean) :: lw_g
def e_Ho_mayBecome : en_T := ([(2, 0, 0, [3]), (2, 0, 0, [3]), (2, 0, 0, [269]), (0, 0, 23, [])], some (0, 0, 1, []), true, 8, 0, 0, [], [], (0, [], [(20, [2, 3], [8, 0, 23, 1])], [], []))
abbrev b_Ho_shade : ByteArray := prog_1_method_25_code
def y_Ho_shade : MethodName := ⟨"DrawingHouse", "shade", "(IIII)I"⟩
abbrev z_Ho_shade : List Cond := Cond.code y_Ho_shade b_Ho_shade 5 (some .int) :: lw_g
def e_Ho_shade : en_T := ([(2, 0, 0, [12]), (0, -2147483648, 2147483647, []), (0, -2147483648, 2147483647, []), (0, -2147483648, 2147483647, []), (0, -2147483648, 2147483647, [])], some (0, -1, 255, []), true, 7, 0, 0, [], [], (0, [], [], [], []))
abbrev b_Ho_writeNumber : ByteArray := prog_1_method_39_code
def y_Ho_writeNumber : MethodName := ⟨"DrawingHouse", "writeNumber", "(I)V"⟩
abbrev z_Ho_writeNumber : List Cond := Cond.code y_Ho_writeNumber b_Ho_writeNumber 7 none :: lw_g
def e_Ho_writeNumber : en_T := ([(2, 0, 0, [12]), (0, -2147483648, 2147483647, [])], none, false, 7, 0, 0, [], [], (261336857795280739939871698507597986398208, [(12, 12)], [(20, [0, 2], [30, 0, 1, 1, 12, -1, 0, 0])], [(20, [0, 2], [30, 8, 1, 1, 12, -1, 0, 0])], [(0, 0, 99999992, [])]))
abbrev b_Dr_isFree : ByteArray := prog_2_method_15_code
def y_Dr_isFree : MethodName := ⟨"DrawingHouse$Drawing", "isFree", "(III)Z"⟩
abbrev z_Dr_isFree : List Cond := Cond.code y_Dr_isFree b_Dr_isFree 5 (some .boolean) :: lw_g
def e_Dr_isFree : en_T := ([(2, 0, 0, [0]), (0, 0, 47, []), (0, -2147483648, 2147483647, []), (0, -2147483648, 2147483647, [])], some (0, 0, 1, []), true, 8, 0, 0, [], [], (0, [], [], [], []))
abbrev b_Dr_wholeLength : ByteArray := prog_2_method_34_code
def y_Dr_wholeLength : MethodName := ⟨"DrawingHouse$Drawing", "wholeLength", "()J"⟩
abbrev z_Dr_wholeLength : List Cond := Cond.code y_Dr_wholeLength b_Dr_wholeLength 5 (some .long) :: lw_g
def e_Dr_wholeLength : en_T := ([(2, 0, 0, [0])], some (1, -9223372036854775808, 9223372036854775807, []), true, 7, 0, 0, [], [], (0, [], [], [], []))
abbrev b_Em_loadKept : ByteArray := prog_3_method_4_code
def y_Em_loadKept : MethodName := ⟨"DrawingHouse$Embedder", "loadKept", "(LDrawingHouse$Graph;)V"⟩
abbrev z_Em_loadKept : List Cond := Cond.code y_Em_loadKept b_Em_loadKept 3 none :: lw_g
def e_Em_loadKept : en_T := ([(2, 0, 0, [1]), (2, 0, 0, [3])], none, false, 7, 0, 0, [], [], (65508439020683705535080685947792133135007744, [(5, 5), (5, 6), (5, 13)], [], [], []))
abbrev b_Fa_learnParts : ByteArray := prog_4_method_11_code
def y_Fa_learnParts : MethodName := ⟨"DrawingHouse$Facts", "learnParts", "(LDrawingHouse$Graph;)V"⟩
abbrev z_Fa_learnParts : List Cond := Cond.code y_Fa_learnParts b_Fa_learnParts 5 none :: lw_g
def e_Fa_learnParts : en_T := ([(2, 0, 0, [2]), (2, 0, 0, [3])], none, false, 8, 0, 0, [], [], (137438953472, [(2, 1)], [], [], []))
abbrev b_Fa_pickFirst : ByteArray := prog_4_method_26_code
def y_Fa_pickFirst : MethodName := ⟨"DrawingHouse$Facts", "pickFirst", "(LDrawingHouse$Graph;II)I"⟩
abbrev z_Fa_pickFirst : List Cond := Cond.code y_Fa_pickFirst b_Fa_pickFirst 10 (some .int) :: lw_g
def e_Fa_pickFirst : en_T := ([(2, 0, 0, [2]), (2, 0, 0, [3]), (0, 0, 16777215, []), (0, 8, 24, [])], some (0, 0, 63, []), true, 7, 0, 0, [], [], (0, [], [], [], []))
abbrev b_Fa_shortestWay_at_Grnear_Pnlevel_Pnway : ByteArray := prog_4_method_6_code
def y_Fa_shortestWay_at_Grnear_Pnlevel_Pnway : MethodName := ⟨"DrawingHouse$Facts", "shortestWay", "([IIIII[I[I)I"⟩
abbrev z_Fa_shortestWay_at_Grnear_Pnlevel_Pnway : List Cond := Cond.code y_Fa_shortestWay_at_Grnear_Pnlevel_Pnway b_Fa_shortestWay_at_Grnear_Pnlevel_Pnway 10 (some .int) :: lw_g
def e_Fa_shortestWay_at_Grnear_Pnlevel_Pnway : en_T := ([(2, 0, 0, [59]), (0, 1, 24, []), (0, 0, 23, []), (0, 0, 16777215, []), (0, 0, 16777215, []), (2, 0, 0, [105]), (2, 0, 0, [106])], some (0, 0, 25, []), false, 7, 0, 0, [], [], (121694457621910022543735047323648, [], [], [], []))
abbrev b_Fa_uniteAt_at_Grtail_Grhead_Fablock : ByteArray := prog_4_method_8_code
def y_Fa_uniteAt_at_Grtail_Grhead_Fablock : MethodName := ⟨"DrawingHouse$Facts", "uniteAt", "(III[I[I[I)V"⟩
abbrev z_Fa_uniteAt_at_Grtail_Grhead_Fablock : List Cond := Cond.code y_Fa_uniteAt_at_Grtail_Grhead_Fablock b_Fa_uniteAt_at_Grtail_Grhead_Fablock 11 none :: lw_g
def e_Fa_uniteAt_at_Grtail_Grhead_Fablock : en_T := ([(0, 0, 23, []), (0, 0, 16777215, []), (0, 0, 48, []), (2, 0, 0, [52]), (2, 0, 0, [53]), (2, 0, 0, [38])], none, false, 7, 0, 0, [], [], (274945015808, [], [], [], []))
abbrev b_Fa_uniteAt_at_Netail_Nehead_Emblock : ByteArray := prog_4_method_8_code
def y_Fa_uniteAt_at_Netail_Nehead_Emblock : MethodName := ⟨"DrawingHouse$Facts", "uniteAt", "(III[I[I[I)V"⟩
abbrev z_Fa_uniteAt_at_Netail_Nehead_Emblock : List Cond := Cond.code y_Fa_uniteAt_at_Netail_Nehead_Emblock b_Fa_uniteAt_at_Netail_Nehead_Emblock 11 none :: lw_g
def e_Fa_uniteAt_at_Netail_Nehead_Emblock : en_T := ([(0, 0, 23, []), (0, 0, 16777215, []), (0, 0, 72, []), (2, 0, 0, [80]), (2, 0, 0, [81]), (2, 0, 0, [26])], none, false, 7, 0, 0, [], [], (274945015808, [], [], [], []))
abbrev b_Fa_uniteAt_at_Netail_Nptail_Nehead_Nphead_Emblock : ByteArray := prog_4_method_8_code
def y_Fa_uniteAt_at_Netail_Nptail_Nehead_Nphead_Emblock : MethodName := ⟨"DrawingHouse$Facts", "uniteAt", "(III[I[I[I)V"⟩
abbrev z_Fa_uniteAt_at_Netail_Nptail_Nehead_Nphead_Emblock : List Cond := Cond.code y_Fa_uniteAt_at_Netail_Nptail_Nehead_Nphead_Emblock b_Fa_uniteAt_at_Netail_Nptail_Nehead_Nphead_Emblock 11 none :: lw_g
def e_Fa_uniteAt_at_Netail_Nptail_Nehead_Nphead_Emblock : en_T := ([(0, 0, 24, []), (0, 0, 33554431, []), (0, 0, 72, []), (2, 0, 0, [80, 140]), (2, 0, 0, [81, 141]), (2, 0, 0, [26])], none, false, 7, 0, 0, [], [], (274945015808, [], [], [], []))
abbrev b_Gr_hasNextName : ByteArray := prog_5_method_20_code
def y_Gr_hasNextName : MethodName := ⟨"DrawingHouse$Graph", "hasNextName", "()Z"⟩
abbrev z_Gr_hasNextName : List Cond := Cond.code y_Gr_hasNextName b_Gr_hasNextName 3 (some .boolean) :: lw_g
def e_Gr_hasNextName : en_T := ([(2, 0, 0, [3])], some (0, 0, 1, []), false, 8, 1, 3, [], [], (5691412770192565637459361055147028046803926286285565003667419169156946148062134272, [], [], [], []))
abbrev b_Ne_insertLast : ByteArray := prog_7_method_10_code
def y_Ne_insertLast : MethodName := ⟨"DrawingHouse$Net", "insertLast", "(II)V"⟩
abbrev z_Ne_insertLast : List Cond := Cond.code y_Ne_insertLast b_Ne_insertLast 3 none :: lw_g
def e_Ne_insertLast : en_T := ([(2, 0, 0, [5]), (0, 0, 71, []), (0, 0, 23, [])], none, false, 9, 0, 0, [], [], (58028439341502200385896448, [], [], [], []))
abbrev b_Ne_load_at_Ne : ByteArray := prog_7_method_4_code
def y_Ne_load_at_Ne : MethodName := ⟨"DrawingHouse$Net", "load", "(LDrawingHouse$Graph;)V"⟩
abbrev z_Ne_load_at_Ne : List Cond := Cond.code y_Ne_load_at_Ne b_Ne_load_at_Ne 3 none :: lw_g
def e_Ne_load_at_Ne : en_T := ([(2, 0, 0, [5]), (2, 0, 0, [3])], none, false, 7, 0, 0, [], [], (65508439020683705535080685947792133135007744, [(5, 5), (5, 6), (5, 13)], [], [(20, [0], [30, 24, 1, 1, 5])], []))
abbrev b_Ne_load_at_Np : ByteArray := prog_7_method_4_code
def y_Ne_load_at_Np : MethodName := ⟨"DrawingHouse$Net", "load", "(LDrawingHouse$Graph;)V"⟩
abbrev z_Ne_load_at_Np : List Cond := Cond.code y_Ne_load_at_Np b_Ne_load_at_Np 3 none :: lw_g
def e_Ne_load_at_Np : en_T := ([(2, 0, 0, [149]), (2, 0, 0, [3])], none, false, 7, 0, 0, [], [], (65508439020683705535080685947792133135007744, [(5, 5), (5, 6), (5, 13)], [], [(20, [0], [30, 24, 1, 1, 5])], []))
abbrev b_Pl_moveOnRing : ByteArray := prog_8_method_21_code
def y_Pl_moveOnRing : MethodName := ⟨"DrawingHouse$PlainWays", "moveOnRing", "(I)V"⟩
abbrev z_Pl_moveOnRing : List Cond := Cond.code y_Pl_moveOnRing b_Pl_moveOnRing 7 none :: lw_g
def e_Pl_moveOnRing : en_T := ([(2, 0, 0, [6]), (0, 1, 23, [])], none, false, 8, 0, 0, [], [((0, 0), (2, 0, 0, [3]))], (618970019642690137449562112, [], [], [], []))
abbrev b_Pl_sumPulls : ByteArray := prog_8_method_23_code
def y_Pl_sumPulls : MethodName := ⟨"DrawingHouse$PlainWays", "sumPulls", "()V"⟩
abbrev z_Pl_sumPulls : List Cond := Cond.code y_Pl_sumPulls b_Pl_sumPulls 16 none :: lw_g
def e_Pl_sumPulls : en_T := ([(2, 0, 0, [6])], none, false, 7, 0, 0, [], [((0, 0), (2, 0, 0, [3]))], (3802951800684688204490109616128, [], [], [], []))
abbrev b_Pn_insertWay : ByteArray := prog_9_method_17_code
def y_Pn_insertWay : MethodName := ⟨"DrawingHouse$PlanarWays", "insertWay", "(I)V"⟩
abbrev z_Pn_insertWay : List Cond := Cond.code y_Pn_insertWay b_Pn_insertWay 6 none :: lw_g
def e_Pn_insertWay : en_T := ([(2, 0, 0, [7]), (0, 0, 25, [])], none, false, 7, 0, 0, [], [], (131835662423735857755657133359104, [(7, 3)], [], [], []))
abbrev b_Pn_middleOfEdges : ByteArray := prog_9_method_22_code
def y_Pn_middleOfEdges : MethodName := ⟨"DrawingHouse$PlanarWays", "middleOfEdges", "(LDrawingHouse$Graph;I)I"⟩
abbrev z_Pn_middleOfEdges : List Cond := Cond.code y_Pn_middleOfEdges b_Pn_middleOfEdges 6 (some .int) :: lw_g
def e_Pn_middleOfEdges : en_T := ([(2, 0, 0, [7]), (2, 0, 0, [3]), (0, 0, 23, [])], some (0, -2147483648, 2147483647, []), true, 6, 0, 0, [], [], (0, [], [], [], []))
abbrev b_Ro_frame : ByteArray := prog_11_method_3_code
def y_Ro_frame : MethodName := ⟨"DrawingHouse$Router", "frame", "()Z"⟩
abbrev z_Ro_frame : List Cond := Cond.code y_Ro_frame b_Ro_frame 4 (some .boolean) :: lw_g
def e_Ro_frame : en_T := ([(2, 0, 0, [9])], some (0, 0, 1, []), false, 7, 0, 0, [], [((0, 0), (2, 0, 0, [3])), ((0, 1), (2, 0, 0, [0]))], (0, [(9, 2), (9, 3), (9, 4), (9, 5)], [], [], []))
abbrev b_Ro_goBack : ByteArray := prog_11_method_9_code
def y_Ro_goBack : MethodName := ⟨"DrawingHouse$Router", "goBack", "(II)V"⟩
abbrev z_Ro_goBack : List Cond := Cond.code y_Ro_goBack b_Ro_goBack 6 none :: lw_g
def e_Ro_goBack : en_T := ([(2, 0, 0, [9]), (0, 0, 23999, []), (0, -2147483647, 1000000000, [])], none, false, 7, 0, 0, [], [], (77884452878022414427957444938301440, [(9, 8), (9, 14)], [(20, [0], [50, 2, 0, 4, 5, 2, 7, 0, 2, 0, 1, 2, 0, 4, 2, 7, 0, 2, 0, 1, 2, 0, 5, 0, 8, 6, 3, 2, 0, 4, 2, 0, 5, 0, 6000]), (20, [1, 0], [50, 2, 0, 1004, 1005, 0, 6, 4, 2, 1, 0, 0, 1, 6, 2, 0, 4, 6, 3, 2, 1, 4, 2, 1, 5])], [], []))
abbrev b_St_findRing : ByteArray := prog_12_method_7_code
def y_St_findRing : MethodName := ⟨"DrawingHouse$Stretch", "findRing", "()I"⟩
abbrev z_St_findRing : List Cond := Cond.code y_St_findRing b_St_findRing 3 (some .int) :: lw_g
def e_St_findRing : en_T := ([(2, 0, 0, [10])], some (0, -1, 71, []), false, 7, 0, 0, [], [], (37218383881977644441306597687849648128, [], [], [], []))
abbrev b_Sy_lookAtNode : ByteArray := prog_13_method_19_code
def y_Sy_lookAtNode : MethodName := ⟨"DrawingHouse$Styler", "lookAtNode", "(LDrawingHouse$Graph;LDrawingHouse$Facts;LDrawingHouse$Drawing;I)V"⟩
abbrev z_Sy_lookAtNode : List Cond := Cond.code y_Sy_lookAtNode b_Sy_lookAtNode 8 none :: lw_g
def e_Sy_lookAtNode : en_T := ([(2, 0, 0, [11]), (2, 0, 0, [3]), (2, 0, 0, [2]), (2, 0, 0, [0]), (0, 0, 23, [])], none, false, 8, 0, 0, [], [], (1361129467683753853853498429727072845824, [], [], [], []))
abbrev b_Mo_back : ByteArray := prog_15_method_49_code
def y_Mo_back : MethodName := ⟨"DrawingHouseModel", "back", "(II)Z"⟩
abbrev z_Mo_back : List Cond := Cond.code y_Mo_back b_Mo_back 3 (some .boolean) :: lw_g
def e_Mo_back : en_T := ([(2, 0, 0, [150]), (0, -2147483648, 2147483647, []), (0, -2147483648, 2147483647, [])], some (0, 0, 1, []), false, 8, 0, 0, [], [], (401832590779374403753967104974076736706057943710609021337600, [], [(20, [0], [50, 0, 2, 3, 4, 5, 2, 0, 4, 0, 5, 3, 0, 3, 7, 0, 3, 0, 4, 7, 0])], [(20, [0], [50, 0, 2, 3, 4, 5, 2, 0, 4, 0, 5, 3, 0, 3, 7, 0, 3, 0, 4, 7, 0])], []))
abbrev b_Mo_isLonger : ByteArray := prog_15_method_203_code
def y_Mo_isLonger : MethodName := ⟨"DrawingHouseModel", "isLonger", "(JJJJJJJJ)Z"⟩
abbrev z_Mo_isLonger : List Cond := Cond.code y_Mo_isLonger b_Mo_isLonger 20 (some .boolean) :: lw_g
def e_Mo_isLonger : en_T := ([(1, -2147483648, 2147483647, []), (1, -2147483648, 2147483647, []), (1, -2147483648, 2147483647, []), (1, -2147483648, 2147483647, []), (1, -2147483648, 2147483647, []), (1, -2147483648, 2147483647, []), (1, -2147483648, 2147483647, []), (1, -2147483648, 2147483647, [])], some (0, 0, 1, []), true, 7, 0, 0, [], [], (0, [], [], [], []))
abbrev b_Mo_isOn : ByteArray := prog_15_method_200_code
def y_Mo_isOn : MethodName := ⟨"DrawingHouseModel", "isOn", "(JJJJJJ)Z"⟩
abbrev z_Mo_isOn : List Cond := Cond.code y_Mo_isOn b_Mo_isOn 12 (some .boolean) :: lw_g
def e_Mo_isOn : en_T := ([(1, -2147483648, 2147483647, []), (1, -2147483648, 2147483647, []), (1, -2147483648, 2147483647, []), (1, -2147483648, 2147483647, []), (1, -2147483648, 2147483647, []), (1, -2147483648, 2147483647, [])], some (0, 0, 1, []), true, 7, 0, 0, [([(1, -2147483648, 2147483647, []), (1, -2147483648, 2147483647, []), (1, -2147483648, 2147483647, []), (1, -2147483648, 2147483647, []), (1, -2147483648, 2147483647, []), (1, -2147483648, 2147483647, []), (0, 0, 0, [])], [], [6], [], [], []), ([(1, -2147483648, 2147483646, []), (1, -2147483648, 2147483647, []), (1, -2147483648, 2147483647, []), (1, -2147483648, 2147483647, []), (1, -2147483648, 2147483647, []), (1, -2147483648, 2147483647, []), (0, 0, 0, [])], [], [6], [], [], []), ([(1, -2147483647, 2147483647, []), (1, -2147483648, 2147483647, []), (1, -2147483648, 2147483647, []), (1, -2147483648, 2147483647, []), (1, -2147483648, 2147483647, []), (1, -2147483648, 2147483647, []), (0, 0, 0, [])], [], [6], [], [], []), ([(1, -2147483648, 2147483647, []), (1, -2147483648, 2147483646, []), (1, -2147483648, 2147483647, []), (1, -2147483648, 2147483647, []), (1, -2147483648, 2147483647, []), (1, -2147483648, 2147483647, []), (0, 0, 0, [])], [], [6], [], [], []), ([(1, -2147483648, 2147483647, []), (1, -2147483647, 2147483647, []), (1, -2147483648, 2147483647, []), (1, -2147483648, 2147483647, []), (1, -2147483648, 2147483647, []), (1, -2147483648, 2147483647, []), (0, 0, 0, [])], [], [6], [], [], []), ([(1, -2147483648, 2147483647, []), (1, -2147483648, 2147483647, []), (1, -2147483648, 2147483647, []), (1, -2147483648, 2147483647, []), (1, -2147483648, 2147483647, []), (1, -2147483648, 2147483647, []), (0, 1, 1, [])], [], [6], [], [], [])], [], (0, [], [], [], []))
abbrev b_Mo_known : ByteArray := prog_15_method_34_code
def y_Mo_known : MethodName := ⟨"DrawingHouseModel", "known", "()I"⟩
abbrev z_Mo_known : List Cond := Cond.code y_Mo_known b_Mo_known 4 (some .int) :: lw_g
def e_Mo_known : en_T := ([(2, 0, 0, [150])], some (0, -1, 23, []), true, 7, 0, 0, [], [], (0, [], [], [], []))
abbrev b_Mo_squares : ByteArray := prog_15_method_170_code
def y_Mo_squares : MethodName := ⟨"DrawingHouseModel", "squares", "(IIIII)V"⟩
abbrev z_Mo_squares : List Cond := Cond.code y_Mo_squares b_Mo_squares 23 none :: lw_g
def e_Mo_squares : en_T := ([(2, 0, 0, [150]), (0, 0, 3, []), (0, -2147483648, 2147483647, []), (0, -2147483648, 2147483647, []), (0, -2147483648, 2147483647, []), (0, -2147483648, 2147483647, [])], none, false, 8, 0, 0, [], [], (301300883298560676664117892313967987972913061334273656619008, [(13, 133), (13, 134)], [], [], []))
abbrev b_Mo_step_at_g0 : ByteArray := prog_15_method_43_code
def y_Mo_step_at_g0 : MethodName := ⟨"DrawingHouseModel", "step", "(I)V"⟩
abbrev z_Mo_step_at_g0 : List Cond := Cond.code y_Mo_step_at_g0 b_Mo_step_at_g0 4 none :: lw_g
def e_Mo_step_at_g0 : en_T := ([(2, 0, 0, [150]), (0, 0, 3, [])], none, false, 8, 0, 0, [], [], (401832590779402948707821224171697902425446933613336676270080, [(13, 5)], [(20, [0], [50, 0, 2, 3, 4, 5, 2, 0, 4, 0, 5, 3, 0, 3, 7, 0, 3, 0, 4, 7, 0]), (20, [2, 0], [30, 0, 1, 0, 0, -1, 3, 2005000]), (20, [2, 0], [30, 0, -1, 0, 0, 1, 3, 2005000]), (20, [0, 1], [50, 1, 1, 5, 3, 1, 3, 2, 0, 5, 4, 6, 6, 2, 0, 16709, 1, 1, 6, 2, 0, 539, 3, 0, 3, 1, 1])], [(20, [0], [50, 0, 2, 3, 4, 5, 2, 0, 4, 0, 5, 3, 0, 3, 7, 0, 3, 0, 4, 7, 0]), (20, [0, 1], [50, 1, 1, 5, 3, 1, 3, 2, 0, 5, 4, 6, 6, 2, 0, 16709, 1, 1, 6, 2, 0, 539, 3, 0, 3, 1, 1]), (20, [2, 0], [30, 0, 1, 0, 0, -1, 3, 2005000]), (20, [2, 0], [30, 0, -1, 0, 0, 1, 3, 2005000])], [(0, 0, 24, [])]))
abbrev b_Mo_step_at_g1 : ByteArray := prog_15_method_43_code
def y_Mo_step_at_g1 : MethodName := ⟨"DrawingHouseModel", "step", "(I)V"⟩
abbrev z_Mo_step_at_g1 : List Cond := Cond.code y_Mo_step_at_g1 b_Mo_step_at_g1 4 none :: lw_g
def e_Mo_step_at_g1 : en_T := ([(2, 0, 0, [150]), (0, 0, 3, [])], none, false, 8, 0, 0, [], [], (401832590779402948707821224171697902425446933613336676270080, [(13, 5)], [(20, [0], [50, 0, 2, 3, 4, 5, 2, 0, 4, 0, 5, 3, 0, 3, 7, 0, 3, 0, 4, 7, 0]), (20, [2, 0], [30, 0, 1, 0, 0, -1, 3, 2005001]), (20, [2, 0], [30, 0, -1, 0, 0, 1, 3, 2005001]), (20, [0, 1], [50, 1, 1, 5, 3, 1, 3, 2, 0, 5, 4, 6, 6, 2, 0, 16709, 1, 1, 6, 2, 0, 539, 3, 0, 3, 1, 1])], [(20, [0], [50, 0, 2, 3, 4, 5, 2, 0, 4, 0, 5, 3, 0, 3, 7, 0, 3, 0, 4, 7, 0]), (20, [0, 1], [50, 1, 1, 5, 3, 1, 3, 2, 0, 5, 4, 6, 6, 2, 0, 16709, 1, 1, 6, 2, 0, 539, 3, 0, 3, 1, 1]), (20, [2, 0], [30, 0, 1, 0, 0, -1, 3, 2005001]), (20, [2, 0], [30, 0, -1, 0, 0, 1, 3, 2005001])], [(0, 0, 48, [])]))
abbrev b_Mo_step_at_gx : ByteArray := prog_15_method_43_code
def y_Mo_step_at_gx : MethodName := ⟨"DrawingHouseModel", "step", "(I)V"⟩
abbrev z_Mo_step_at_gx : List Cond := Cond.code y_Mo_step_at_gx b_Mo_step_at_gx 4 none :: lw_g
def e_Mo_step_at_gx : en_T := ([(2, 0, 0, [150]), (0, 0, 3, [])], none, false, 8, 0, 0, [], [], (401832590779402948707821224171697902425446933613336676270080, [(13, 5)], [(20, [0], [50, 0, 2, 3, 4, 5, 2, 0, 4, 0, 5, 3, 0, 3, 7, 0, 3, 0, 4, 7, 0])], [(20, [0], [50, 0, 2, 3, 4, 5, 2, 0, 4, 0, 5, 3, 0, 3, 7, 0, 3, 0, 4, 7, 0]), (20, [0, 1], [50, 1, 1, 5, 3, 1, 3, 2, 0, 5, 4, 6, 6, 2, 0, 16709, 1, 1, 6, 2, 0, 539, 3, 0, 3, 1, 1])], []))
abbrev b_Mo_styleTokens : ByteArray := prog_15_method_212_code
def y_Mo_styleTokens : MethodName := ⟨"DrawingHouseModel", "styleTokens", "(I)V"⟩
abbrev z_Mo_styleTokens : List Cond := Cond.code y_Mo_styleTokens b_Mo_styleTokens 9 none :: lw_g
def e_Mo_styleTokens : en_T := ([(2, 0, 0, [150]), (0, 0, 2000, [])], none, false, 8, 0, 0, [], [], (13895050708477943450828518201042548942392398159876867684734910080949575556792320, [(13, 10), (13, 11), (13, 157)], [], [(20, [0], [50, 1, 1, 157, 160, 2, 7, 0, 2, 0, 1, 2, 0, 157, 3, 14, 1, 10, 3, 0, 160, 5, 3, 2, 0, 157, 0, 1, 0, 0, 1, 10, 3, 0, 160, 5, 3, 2, 0, 157, 0, 1, 0, 4]), (20, [0], [30, 2001, 1, 1, 157])], []))
abbrev b_Mo_sweeps : ByteArray := prog_15_method_135_code
def y_Mo_sweeps : MethodName := ⟨"DrawingHouseModel", "sweeps", "()I"⟩
abbrev z_Mo_sweeps : List Cond := Cond.code y_Mo_sweeps b_Mo_sweeps 6 (some .int) :: lw_g
def e_Mo_sweeps : en_T := ([(2, 0, 0, [150])], some (0, -2147483648, 2147483647, []), false, 8, 0, 0, [], [], (414131740754100977885880018751708546777740175474645733882232557038206976, [], [], [], []))
abbrev b_Mo_writeNode : ByteArray := prog_15_method_236_code
def y_Mo_writeNode : MethodName := ⟨"DrawingHouseModel", "writeNode", "(I)V"⟩
abbrev z_Mo_writeNode : List Cond := Cond.code y_Mo_writeNode b_Mo_writeNode 2 none :: lw_g
def e_Mo_writeNode : en_T := ([(2, 0, 0, [150]), (0, 0, 23, [])], none, false, 8, 0, 0, [], [], (237142198758023568227473377297792835283496928595231875152809132048206089502588928, [(13, 170)], [(20, [0, 2], [30, 0, 1, 1, 170, -1, 0, 0])], [(20, [0, 2], [30, 8, 1, 1, 170, -1, 0, 0])], [(0, 0, 99999992, [])]))
abbrev b_Ho_at : ByteArray := prog_1_method_18_code
def y_Ho_at : MethodName := ⟨"DrawingHouse", "at", "(IIII)I"⟩
abbrev z_Ho_at : List Cond := Cond.code y_Ho_at b_Ho_at 5 (some .int) :: lw_g
def e_Ho_at : en_T := ([(2, 0, 0, [12]), (0, -2147483648, 2147483647, []), (0, -2147483648, 2147483647, []), (0, -2147483648, 2147483647, []), (0, -2147483648, 2147483647, [])], some (0, -2147483648, 2147483647, []), true, 8, 0, 0, [([(2, 0, 0, [12]), (0, -2147483648, -1, []), (0, -2147483648, 2147483647, []), (0, -2147483648, 2147483647, []), (0, -2147483648, 2147483647, []), (0, -2147483648, -2147483648, [])], [], [5], [], [], []), ([(2, 0, 0, [12]), (0, 4, 2147483647, []), (0, -2147483648, 2147483647, []), (0, -2147483648, 2147483647, []), (0, -2147483648, 2147483647, []), (0, -2147483648, -2147483648, [])], [], [5], [], [], []), ([(2, 0, 0, [12]), (0, 0, 3, []), (0, -2147483648, 2147483647, []), (0, -2147483648, 2147483647, []), (0, -2147483648, 2147483647, []), (0, -2147483648, 2147483647, [])], [], [5], [], [], [])], [], (0, [], [], [], []))
abbrev b_Ho_far : ByteArray := prog_1_method_12_code
def y_Ho_far : MethodName := ⟨"DrawingHouse", "far", "(III)I"⟩
abbrev z_Ho_far : List Cond := Cond.code y_Ho_far b_Ho_far 4 (some .int) :: lw_g
def e_Ho_far : en_T := ([(2, 0, 0, [12]), (0, -2147483648, 2147483647, []), (0, -2147483648, 2147483647, []), (0, -2147483648, 2147483647, [])], some (0, -1, 23, []), true, 8, 0, 0, [([(2, 0, 0, [12]), (0, -2147483648, -1, []), (0, -2147483648, 2147483647, []), (0, -2147483648, 2147483647, []), (0, -1, -1, [])], [], [4], [], [], []), ([(2, 0, 0, [12]), (0, 4, 2147483647, []), (0, -2147483648, 2147483647, []), (0, -2147483648, 2147483647, []), (0, -1, -1, [])], [], [4], [], [], []), ([(2, 0, 0, [12]), (0, 0, 3, []), (0, -2147483648, -1, []), (0, -2147483648, 2147483647, []), (0, -1, -1, [])], [], [4], [], [], []), ([(2, 0, 0, [12]), (0, 0, 3, []), (0, 0, 2147483647, []), (0, -2147483648, 2147483647, []), (0, -1, -1, [])], [], [4], [], [], []), ([(2, 0, 0, [12]), (0, 0, 3, []), (0, 0, 23, []), (0, -2147483648, -1, []), (0, -1, -1, [])], [], [4], [], [], []), ([(2, 0, 0, [12]), (0, 0, 3, []), (0, 0, 23, []), (0, 0, 2147483647, []), (0, -1, -1, [])], [], [4], [], [], []), ([(2, 0, 0, [12]), (0, 0, 3, []), (0, 0, 23, []), (0, 0, 23, []), (0, -1, 23, [])], [], [4], [], [], [])], [], (0, [], [], [], []))
abbrev b_Ho_put : ByteArray := prog_1_method_20_code
def y_Ho_put : MethodName := ⟨"DrawingHouse", "put", "(IIIII)Z"⟩
abbrev z_Ho_put : List Cond := Cond.code y_Ho_put b_Ho_put 6 (some .boolean) :: lw_g
def e_Ho_put : en_T := ([(2, 0, 0, [12]), (0, -2147483648, 2147483647, []), (0, -2147483648, 2147483647, []), (0, -2147483648, 2147483647, []), (0, -2147483648, 2147483647, []), (0, -2147483648, 2147483647, [])], some (0, 0, 1, []), false, 8, 0, 0, [], [], (442368, [], [], [], []))
abbrev b_Ho_writePoint : ByteArray := prog_1_method_44_code
def y_Ho_writePoint : MethodName := ⟨"DrawingHouse", "writePoint", "(II)V"⟩
abbrev z_Ho_writePoint : List Cond := Cond.code y_Ho_writePoint b_Ho_writePoint 3 none :: lw_g
def e_Ho_writePoint : en_T := ([(2, 0, 0, [12]), (0, -2147483648, 2147483647, []), (0, -2147483648, 2147483647, [])], none, false, 8, 0, 0, [], [], (261336857795280739939871698507597986398208, [(12, 12)], [(20, [0, 3], [30, 0, 1, 1, 12, -1, 0, 0])], [(20, [0, 3], [30, 18, 1, 1, 12, -1, 0, 0])], [(0, 0, 99999982, [])]))
abbrev b_Em_pickPiece : ByteArray := prog_3_method_9_code
def y_Em_pickPiece : MethodName := ⟨"DrawingHouse$Embedder", "pickPiece", "(I)Z"⟩
abbrev z_Em_pickPiece : List Cond := Cond.code y_Em_pickPiece b_Em_pickPiece 10 (some .boolean) :: lw_g
def e_Em_pickPiece : en_T := ([(2, 0, 0, [1]), (0, 0, 71, [])], some (0, 0, 1, []), false, 8, 0, 0, [], [((0, 0), (2, 0, 0, [5, 149]))], (0, [(1, 16), (1, 17), (1, 18)], [], [], []))
abbrev b_Fa_orderSmall : ByteArray := prog_4_method_21_code
def y_Fa_orderSmall : MethodName := ⟨"DrawingHouse$Facts", "orderSmall", "(LDrawingHouse$Graph;I)V"⟩
abbrev z_Fa_orderSmall : List Cond := Cond.code y_Fa_orderSmall b_Fa_orderSmall 7 none :: lw_g
def e_Fa_orderSmall : en_T := ([(2, 0, 0, [2]), (2, 0, 0, [3]), (0, 2, 7, [])], none, false, 9, 0, 0, [], [], (175921860444160, [], [], [], []))
abbrev b_Gr_copyFrom : ByteArray := prog_5_method_3_code
def y_Gr_copyFrom : MethodName := ⟨"DrawingHouse$Graph", "copyFrom", "(LDrawingHouse$Graph;)V"⟩
abbrev z_Gr_copyFrom : List Cond := Cond.code y_Gr_copyFrom b_Gr_copyFrom 2 none :: lw_g
def e_Gr_copyFrom : en_T := ([(2, 0, 0, [3]), (2, 0, 0, [3])], none, false, 8, 0, 0, [], [], (2305561534236983296, [(3, 0), (3, 1), (3, 2), (3, 17), (3, 18)], [], [], []))
abbrev b_La_sweep : ByteArray := prog_6_method_24_code
def y_La_sweep : MethodName := ⟨"DrawingHouse$Layers", "sweep", "()V"⟩
abbrev z_La_sweep : List Cond := Cond.code y_La_sweep b_La_sweep 4 none :: lw_g
def e_La_sweep : en_T := ([(2, 0, 0, [4])], none, false, 8, 0, 0, [], [], (36008044431881044754432, [], [], [], []))
abbrev b_Ne_copyFrom : ByteArray := prog_7_method_14_code
def y_Ne_copyFrom : MethodName := ⟨"DrawingHouse$Net", "copyFrom", "(LDrawingHouse$Net;)V"⟩
abbrev z_Ne_copyFrom : List Cond := Cond.code y_Ne_copyFrom b_Ne_copyFrom 3 none :: lw_g
def e_Ne_copyFrom : en_T := ([(2, 0, 0, [5]), (2, 0, 0, [5])], none, false, 7, 0, 0, [], [], (65508439020683705554423499061626199930306560, [(5, 5), (5, 6), (5, 13)], [], [], []))
abbrev b_Pl_findWorst : ByteArray := prog_8_method_15_code
def y_Pl_findWorst : MethodName := ⟨"DrawingHouse$PlainWays", "findWorst", "(IIII)V"⟩
abbrev z_Pl_findWorst : List Cond := Cond.code y_Pl_findWorst b_Pl_findWorst 18 none :: lw_g
def e_Pl_findWorst : en_T := ([(2, 0, 0, [6]), (0, 0, 31, []), (0, 1, 32, []), (0, -2147483648, 2147483647, []), (0, -2147483648, 2147483647, [])], none, false, 6, 0, 0, [], [], (0, [(6, 13), (6, 14)], [], [], []))
abbrev b_Pl_placeOver : ByteArray := prog_8_method_6_code
def y_Pl_placeOver : MethodName := ⟨"DrawingHouse$PlainWays", "placeOver", "(I)V"⟩
abbrev z_Pl_placeOver : List Cond := Cond.code y_Pl_placeOver b_Pl_placeOver 4 none :: lw_g
def e_Pl_placeOver : en_T := ([(2, 0, 0, [6]), (0, 0, 23, [])], none, false, 8, 0, 0, [], [((0, 0), (2, 0, 0, [3])), ((0, 1), (2, 0, 0, [0]))], (29710560942849126597578997760, [], [], [], []))
abbrev b_Pl_tryRing_at_k1 : ByteArray := prog_8_method_18_code
def y_Pl_tryRing_at_k1 : MethodName := ⟨"DrawingHouse$PlainWays", "tryRing", "(III)V"⟩
abbrev z_Pl_tryRing_at_k1 : List Cond := Cond.code y_Pl_tryRing_at_k1 b_Pl_tryRing_at_k1 6 none :: lw_g
def e_Pl_tryRing_at_k1 : en_T := ([(2, 0, 0, [6]), (0, 1, 1, []), (0, 1, 1, []), (0, 0, 0, [])], none, false, 14, 0, 0, [], [((0, 0), (2, 0, 0, [3]))], (1856910058928070412348686336, [(6, 8)], [], [], []))
abbrev b_Pl_tryRing_at_k2 : ByteArray := prog_8_method_18_code
def y_Pl_tryRing_at_k2 : MethodName := ⟨"DrawingHouse$PlainWays", "tryRing", "(III)V"⟩
abbrev z_Pl_tryRing_at_k2 : List Cond := Cond.code y_Pl_tryRing_at_k2 b_Pl_tryRing_at_k2 6 none :: lw_g
def e_Pl_tryRing_at_k2 : en_T := ([(2, 0, 0, [6]), (0, 2, 2, []), (0, 0, 16777215, []), (0, -2147483648, 2147483647, [])], none, false, 13, 0, 0, [], [((0, 0), (2, 0, 0, [3]))], (1856910058928070412348686336, [(6, 8)], [], [], []))
abbrev b_Pl_tryRing_at_k3 : ByteArray := prog_8_method_18_code
def y_Pl_tryRing_at_k3 : MethodName := ⟨"DrawingHouse$PlainWays", "tryRing", "(III)V"⟩
abbrev z_Pl_tryRing_at_k3 : List Cond := Cond.code y_Pl_tryRing_at_k3 b_Pl_tryRing_at_k3 6 none :: lw_g
def e_Pl_tryRing_at_k3 : en_T := ([(2, 0, 0, [6]), (0, 3, 3, []), (0, 0, 16777215, []), (0, -2147483648, 2147483647, [])], none, false, 12, 0, 0, [], [((0, 0), (2, 0, 0, [3]))], (1856910058928070412348686336, [(6, 8)], [], [], []))
abbrev b_Pl_tryRing_at_k4 : ByteArray := prog_8_method_18_code
def y_Pl_tryRing_at_k4 : MethodName := ⟨"DrawingHouse$PlainWays", "tryRing", "(III)V"⟩
abbrev z_Pl_tryRing_at_k4 : List Cond := Cond.code y_Pl_tryRing_at_k4 b_Pl_tryRing_at_k4 6 none :: lw_g
def e_Pl_tryRing_at_k4 : en_T := ([(2, 0, 0, [6]), (0, 4, 4, []), (0, 0, 16777215, []), (0, -2147483648, 2147483647, [])], none, false, 11, 0, 0, [], [((0, 0), (2, 0, 0, [3]))], (1856910058928070412348686336, [(6, 8)], [], [], []))
abbrev b_Pl_tryRing_at_k5 : ByteArray := prog_8_method_18_code
def y_Pl_tryRing_at_k5 : MethodName := ⟨"DrawingHouse$PlainWays", "tryRing", "(III)V"⟩
abbrev z_Pl_tryRing_at_k5 : List Cond := Cond.code y_Pl_tryRing_at_k5 b_Pl_tryRing_at_k5 6 none :: lw_g
def e_Pl_tryRing_at_k5 : en_T := ([(2, 0, 0, [6]), (0, 5, 5, []), (0, 0, 16777215, []), (0, -2147483648, 2147483647, [])], none, false, 10, 0, 0, [], [((0, 0), (2, 0, 0, [3]))], (1856910058928070412348686336, [(6, 8)], [], [], []))
abbrev b_Pl_tryRing_at_k6 : ByteArray := prog_8_method_18_code
def y_Pl_tryRing_at_k6 : MethodName := ⟨"DrawingHouse$PlainWays", "tryRing", "(III)V"⟩
abbrev z_Pl_tryRing_at_k6 : List Cond := Cond.code y_Pl_tryRing_at_k6 b_Pl_tryRing_at_k6 6 none :: lw_g
def e_Pl_tryRing_at_k6 : en_T := ([(2, 0, 0, [6]), (0, 6, 6, []), (0, 0, 16777215, []), (0, -2147483648, 2147483647, [])], none, false, 9, 0, 0, [], [((0, 0), (2, 0, 0, [3]))], (1856910058928070412348686336, [(6, 8)], [], [], []))
abbrev b_Pl_tryRing_at_k7 : ByteArray := prog_8_method_18_code
def y_Pl_tryRing_at_k7 : MethodName := ⟨"DrawingHouse$PlainWays", "tryRing", "(III)V"⟩
abbrev z_Pl_tryRing_at_k7 : List Cond := Cond.code y_Pl_tryRing_at_k7 b_Pl_tryRing_at_k7 6 none :: lw_g
def e_Pl_tryRing_at_k7 : en_T := ([(2, 0, 0, [6]), (0, 7, 7, []), (0, 0, 16777215, []), (0, -2147483648, 2147483647, [])], none, false, 8, 0, 0, [], [((0, 0), (2, 0, 0, [3]))], (1856910058928070412348686336, [(6, 8)], [], [], []))
abbrev b_Pl_tryRing_at_k8 : ByteArray := prog_8_method_18_code
def y_Pl_tryRing_at_k8 : MethodName := ⟨"DrawingHouse$PlainWays", "tryRing", "(III)V"⟩
abbrev z_Pl_tryRing_at_k8 : List Cond := Cond.code y_Pl_tryRing_at_k8 b_Pl_tryRing_at_k8 6 none :: lw_g
def e_Pl_tryRing_at_k8 : en_T := ([(2, 0, 0, [6]), (0, 8, 8, []), (0, 0, 16777215, []), (0, -2147483648, 2147483647, [])], none, false, 7, 0, 0, [], [((0, 0), (2, 0, 0, [3]))], (1856910058928070412348686336, [(6, 8)], [], [], []))
abbrev b_Pl_tryRing_at_k9 : ByteArray := prog_8_method_18_code
def y_Pl_tryRing_at_k9 : MethodName := ⟨"DrawingHouse$PlainWays", "tryRing", "(III)V"⟩
abbrev z_Pl_tryRing_at_k9 : List Cond := Cond.code y_Pl_tryRing_at_k9 b_Pl_tryRing_at_k9 6 none :: lw_g
def e_Pl_tryRing_at_k9 : en_T := ([(2, 0, 0, [6]), (0, 9, 9, []), (0, 0, 16777215, []), (0, -2147483648, 2147483647, [])], none, false, 6, 0, 0, [], [((0, 0), (2, 0, 0, [3]))], (1856910058928070412348686336, [(6, 8)], [], [], []))
abbrev b_Pn_openLine : ByteArray := prog_9_method_10_code
def y_Pn_openLine : MethodName := ⟨"DrawingHouse$PlanarWays", "openLine", "(II)V"⟩
abbrev z_Pn_openLine : List Cond := Cond.code y_Pn_openLine b_Pn_openLine 10 none :: lw_g
def e_Pn_openLine : en_T := ([(2, 0, 0, [7]), (0, 1, 22, []), (0, 0, 16777215, [])], none, false, 7, 0, 0, [], [], (91270843216432516907762630787072, [(7, 3)], [], [], []))
abbrev b_Pn_placeNext : ByteArray := prog_9_method_13_code
def y_Pn_placeNext : MethodName := ⟨"DrawingHouse$PlanarWays", "placeNext", "(LDrawingHouse$Drawing;I)V"⟩
abbrev z_Pn_placeNext : List Cond := Cond.code y_Pn_placeNext b_Pn_placeNext 7 none :: lw_g
def e_Pn_placeNext : en_T := ([(2, 0, 0, [7]), (2, 0, 0, [0]), (0, 0, 23, [])], none, false, 7, 0, 0, [], [], (111553252820084187331709882122240, [(7, 3)], [], [], []))
abbrev b_Re_meetNode : ByteArray := prog_10_method_13_code
def y_Re_meetNode : MethodName := ⟨"DrawingHouse$Reader", "meetNode", "()I"⟩
abbrev z_Re_meetNode : List Cond := Cond.code y_Re_meetNode b_Re_meetNode 2 (some .int) :: lw_g
def e_Re_meetNode : en_T := ([(2, 0, 0, [8])], some (0, -1, 23, []), false, 8, 0, 0, [], [], (580682876954083328, [(3, 0)], [(20, [0, 0], [30, 8, 1, 1, 6, -1, 1, 8]), (20, [0, 0], [30, 0, -1, 1, 6, 1, 1, 8])], [], []))
abbrev b_Sy_run : ByteArray := prog_13_method_24_code
def y_Sy_run : MethodName := ⟨"DrawingHouse$Styler", "run", "(II)V"⟩
abbrev z_Sy_run : List Cond := Cond.code y_Sy_run b_Sy_run 7 none :: lw_g
def e_Sy_run : en_T := ([(2, 0, 0, [11]), (0, -2147483648, 2147483647, []), (0, 0, 65535, [])], none, false, 7, 0, 0, [], [], (680564733841876926926749214863536422912, [(11, 15)], [], [], []))
abbrev b_Mo_becomes_at_k219_k0 : ByteArray := prog_15_method_45_code
def y_Mo_becomes_at_k219_k0 : MethodName := ⟨"DrawingHouseModel", "becomes", "(IIZII)I"⟩
abbrev z_Mo_becomes_at_k219_k0 : List Cond := Cond.code y_Mo_becomes_at_k219_k0 b_Mo_becomes_at_k219_k0 6 (some .int) :: lw_g
def e_Mo_becomes_at_k219_k0 : en_T := ([(2, 0, 0, [150]), (0, 0, 3, []), (0, 219, 219, []), (0, 0, 0, []), (0, -2147483648, 2147483647, []), (0, -2147483648, 2147483647, [])], some (0, -1, -1, []), false, 6, 0, 0, [], [], (401832590779402948707821224171697902425446933613336676270080, [(13, 5)], [(20, [0], [50, 0, 2, 3, 4, 5, 2, 0, 4, 0, 5, 3, 0, 3, 7, 0, 3, 0, 4, 7, 0])], [(20, [0], [50, 0, 2, 3, 4, 5, 2, 0, 4, 0, 5, 3, 0, 3, 7, 0, 3, 0, 4, 7, 0])], []))
abbrev b_Mo_becomes_at_k219_k1 : ByteArray := prog_15_method_45_code
def y_Mo_becomes_at_k219_k1 : MethodName := ⟨"DrawingHouseModel", "becomes", "(IIZII)I"⟩
abbrev z_Mo_becomes_at_k219_k1 : List Cond := Cond.code y_Mo_becomes_at_k219_k1 b_Mo_becomes_at_k219_k1 6 (some .int) :: lw_g
def e_Mo_becomes_at_k219_k1 : en_T := ([(2, 0, 0, [150]), (0, 0, 3, []), (0, 219, 219, []), (0, 1, 1, []), (0, 0, 23, []), (0, 1, 99, [])], some (0, 0, 0, []), false, 9, 0, 0, [], [], (401832590779402948707821224171697902425446933613336676270080, [(13, 5)], [(20, [0], [50, 0, 2, 3, 4, 5, 2, 0, 4, 0, 5, 3, 0, 3, 7, 0, 3, 0, 4, 7, 0])], [(20, [0], [50, 0, 2, 3, 4, 5, 2, 0, 4, 0, 5, 3, 0, 3, 7, 0, 3, 0, 4, 7, 0])], []))
abbrev b_Mo_becomes_at_k243_k0 : ByteArray := prog_15_method_45_code
def y_Mo_becomes_at_k243_k0 : MethodName := ⟨"DrawingHouseModel", "becomes", "(IIZII)I"⟩
abbrev z_Mo_becomes_at_k243_k0 : List Cond := Cond.code y_Mo_becomes_at_k243_k0 b_Mo_becomes_at_k243_k0 6 (some .int) :: lw_g
def e_Mo_becomes_at_k243_k0 : en_T := ([(2, 0, 0, [150]), (0, 0, 3, []), (0, 243, 243, []), (0, 0, 0, []), (0, -2147483648, 2147483647, []), (0, -2147483648, 2147483647, [])], some (0, -1, -1, []), false, 6, 0, 0, [], [], (401832590779402948707821224171697902425446933613336676270080, [(13, 5)], [(20, [0], [50, 0, 2, 3, 4, 5, 2, 0, 4, 0, 5, 3, 0, 3, 7, 0, 3, 0, 4, 7, 0])], [(20, [0], [50, 0, 2, 3, 4, 5, 2, 0, 4, 0, 5, 3, 0, 3, 7, 0, 3, 0, 4, 7, 0])], []))
abbrev b_Mo_becomes_at_k243_k1 : ByteArray := prog_15_method_45_code
def y_Mo_becomes_at_k243_k1 : MethodName := ⟨"DrawingHouseModel", "becomes", "(IIZII)I"⟩
abbrev z_Mo_becomes_at_k243_k1 : List Cond := Cond.code y_Mo_becomes_at_k243_k1 b_Mo_becomes_at_k243_k1 6 (some .int) :: lw_g
def e_Mo_becomes_at_k243_k1 : en_T := ([(2, 0, 0, [150]), (0, 0, 3, []), (0, 243, 243, []), (0, 1, 1, []), (0, 0, 23, []), (0, 0, 7, [])], some (0, 0, 0, []), false, 9, 0, 0, [], [], (401832590779402948707821224171697902425446933613336676270080, [(13, 5)], [(20, [0], [50, 0, 2, 3, 4, 5, 2, 0, 4, 0, 5, 3, 0, 3, 7, 0, 3, 0, 4, 7, 0])], [(20, [0], [50, 0, 2, 3, 4, 5, 2, 0, 4, 0, 5, 3, 0, 3, 7, 0, 3, 0, 4, 7, 0])], []))
abbrev b_Mo_becomes_at_k363_k0 : ByteArray := prog_15_method_45_code
def y_Mo_becomes_at_k363_k0 : MethodName := ⟨"DrawingHouseModel", "becomes", "(IIZII)I"⟩
abbrev z_Mo_becomes_at_k363_k0 : List Cond := Cond.code y_Mo_becomes_at_k363_k0 b_Mo_becomes_at_k363_k0 6 (some .int) :: lw_g
def e_Mo_becomes_at_k363_k0 : en_T := ([(2, 0, 0, [150]), (0, 0, 3, []), (0, 363, 363, []), (0, 0, 0, []), (0, -2147483648, 2147483647, []), (0, -2147483648, 2147483647, [])], some (0, -1, -1, []), false, 6, 0, 0, [], [], (401832590779402948707821224171697902425446933613336676270080, [(13, 5)], [(20, [0], [50, 0, 2, 3, 4, 5, 2, 0, 4, 0, 5, 3, 0, 3, 7, 0, 3, 0, 4, 7, 0])], [(20, [0], [50, 0, 2, 3, 4, 5, 2, 0, 4, 0, 5, 3, 0, 3, 7, 0, 3, 0, 4, 7, 0])], []))
abbrev b_Mo_becomes_at_k363_k1 : ByteArray := prog_15_method_45_code
def y_Mo_becomes_at_k363_k1 : MethodName := ⟨"DrawingHouseModel", "becomes", "(IIZII)I"⟩
abbrev z_Mo_becomes_at_k363_k1 : List Cond := Cond.code y_Mo_becomes_at_k363_k1 b_Mo_becomes_at_k363_k1 6 (some .int) :: lw_g
def e_Mo_becomes_at_k363_k1 : en_T := ([(2, 0, 0, [150]), (0, 0, 3, []), (0, 363, 363, []), (0, 1, 1, []), (0, 0, 47, []), (0, 1, 9, [])], some (0, 0, 0, []), false, 9, 0, 0, [], [], (401832590779402948707821224171697902425446933613336676270080, [(13, 5)], [(20, [0], [50, 0, 2, 3, 4, 5, 2, 0, 4, 0, 5, 3, 0, 3, 7, 0, 3, 0, 4, 7, 0])], [(20, [0], [50, 0, 2, 3, 4, 5, 2, 0, 4, 0, 5, 3, 0, 3, 7, 0, 3, 0, 4, 7, 0])], []))
abbrev b_Mo_becomes_at_k411_k0 : ByteArray := prog_15_method_45_code
def y_Mo_becomes_at_k411_k0 : MethodName := ⟨"DrawingHouseModel", "becomes", "(IIZII)I"⟩
abbrev z_Mo_becomes_at_k411_k0 : List Cond := Cond.code y_Mo_becomes_at_k411_k0 b_Mo_becomes_at_k411_k0 6 (some .int) :: lw_g
def e_Mo_becomes_at_k411_k0 : en_T := ([(2, 0, 0, [150]), (0, 0, 3, []), (0, 411, 411, []), (0, 0, 0, []), (0, -2147483648, 2147483647, []), (0, -2147483648, 2147483647, [])], some (0, -1, -1, []), false, 6, 0, 0, [], [], (401832590779402948707821224171697902425446933613336676270080, [(13, 5)], [(20, [0], [50, 0, 2, 3, 4, 5, 2, 0, 4, 0, 5, 3, 0, 3, 7, 0, 3, 0, 4, 7, 0])], [(20, [0], [50, 0, 2, 3, 4, 5, 2, 0, 4, 0, 5, 3, 0, 3, 7, 0, 3, 0, 4, 7, 0])], []))
abbrev b_Mo_becomes_at_k411_k1 : ByteArray := prog_15_method_45_code
def y_Mo_becomes_at_k411_k1 : MethodName := ⟨"DrawingHouseModel", "becomes", "(IIZII)I"⟩
abbrev z_Mo_becomes_at_k411_k1 : List Cond := Cond.code y_Mo_becomes_at_k411_k1 b_Mo_becomes_at_k411_k1 6 (some .int) :: lw_g
def e_Mo_becomes_at_k411_k1 : en_T := ([(2, 0, 0, [150]), (0, 0, 3, []), (0, 411, 411, []), (0, 1, 1, []), (0, 0, 47, []), (0, 0, 1, [])], some (0, 0, 0, []), false, 9, 0, 0, [], [], (401832590779402948707821224171697902425446933613336676270080, [(13, 5)], [(20, [0], [50, 0, 2, 3, 4, 5, 2, 0, 4, 0, 5, 3, 0, 3, 7, 0, 3, 0, 4, 7, 0])], [(20, [0], [50, 0, 2, 3, 4, 5, 2, 0, 4, 0, 5, 3, 0, 3, 7, 0, 3, 0, 4, 7, 0])], []))
abbrev b_Mo_between : ByteArray := prog_15_method_23_code
def y_Mo_between : MethodName := ⟨"DrawingHouseModel", "between", "(II)I"⟩
abbrev z_Mo_between : List Cond := Cond.code y_Mo_between b_Mo_between 4 (some .int) :: lw_g
def e_Mo_between : en_T := ([(2, 0, 0, [150]), (0, 0, 75, []), (0, 0, 75, [])], some (0, -1, 47, []), true, 8, 0, 0, [], [], (0, [], [], [], []))
abbrev b_Mo_ex : ByteArray := prog_15_method_184_code
def y_Mo_ex : MethodName := ⟨"DrawingHouseModel", "ex", "(II)I"⟩
abbrev z_Mo_ex : List Cond := Cond.code y_Mo_ex b_Mo_ex 3 (some .int) :: lw_g
def e_Mo_ex : en_T := ([(2, 0, 0, [150]), (0, 0, 47, []), (0, 0, 25, [])], some (0, -2147483648, 2147483647, []), true, 7, 0, 0, [([(2, 0, 0, [150]), (0, 0, 47, []), (0, 1, 25, []), (0, -2147483648, 2147483647, [])], [], [3], [], [], []), ([(2, 0, 0, [150]), (0, 0, 47, []), (0, 0, 0, []), (0, -2147483648, 2147483647, [])], [], [3], [], [], [])], [], (0, [], [(20, [2, 0, 1], [50, 1, 1, 1139, 1064, 0, 2, 1, 0, 4, 14, 3, 1, 64, 4, 7, 6, 2, 0, 48, 2, 1, 139, 1, 2, 0, 1])], [], []))
abbrev b_Mo_ey : ByteArray := prog_15_method_185_code
def y_Mo_ey : MethodName := ⟨"DrawingHouseModel", "ey", "(II)I"⟩
abbrev z_Mo_ey : List Cond := Cond.code y_Mo_ey b_Mo_ey 3 (some .int) :: lw_g
def e_Mo_ey : en_T := ([(2, 0, 0, [150]), (0, 0, 47, []), (0, 0, 25, [])], some (0, -2147483648, 2147483647, []), true, 7, 0, 0, [([(2, 0, 0, [150]), (0, 0, 47, []), (0, 1, 25, []), (0, -2147483648, 2147483647, [])], [], [3], [], [], []), ([(2, 0, 0, [150]), (0, 0, 47, []), (0, 0, 0, []), (0, -2147483648, 2147483647, [])], [], [3], [], [], [])], [], (0, [], [(20, [2, 0, 1], [50, 1, 1, 1139, 1064, 0, 2, 1, 0, 4, 14, 3, 1, 64, 4, 7, 6, 2, 0, 48, 2, 1, 139, 1, 2, 0, 1])], [], []))
abbrev b_Mo_isDrawn : ByteArray := prog_15_method_180_code
def y_Mo_isDrawn : MethodName := ⟨"DrawingHouseModel", "isDrawn", "(I)Z"⟩
abbrev z_Mo_isDrawn : List Cond := Cond.code y_Mo_isDrawn b_Mo_isDrawn 2 (some .boolean) :: lw_g
def e_Mo_isDrawn : en_T := ([(2, 0, 0, [150]), (0, -2147483648, 2147483647, [])], some (0, 0, 1, []), false, 8, 0, 0, [], [], (0, [(13, 5), (13, 139)], [], [], []))
abbrev b_Mo_isInBox : ByteArray := prog_15_method_186_code
def y_Mo_isInBox : MethodName := ⟨"DrawingHouseModel", "isInBox", "(III)Z"⟩
abbrev z_Mo_isInBox : List Cond := Cond.code y_Mo_isInBox b_Mo_isInBox 5 (some .boolean) :: lw_g
def e_Mo_isInBox : en_T := ([(2, 0, 0, [150]), (0, 0, 23, []), (0, -2147483648, 2147483647, []), (0, -2147483648, 2147483647, [])], some (0, 0, 1, []), true, 7, 0, 0, [([(2, 0, 0, [150]), (0, 0, 23, []), (0, -2147483648, 2147483646, []), (0, -2147483648, 2147483647, []), (0, 0, 0, [])], [], [4], [], [], []), ([(2, 0, 0, [150]), (0, 0, 23, []), (0, -2147483647, 2147483647, []), (0, -2147483648, 2147483647, []), (0, 0, 0, [])], [], [4], [], [], []), ([(2, 0, 0, [150]), (0, 0, 23, []), (0, -2147483648, 2147483647, []), (0, -2147483648, 2147483646, []), (0, 0, 0, [])], [], [4], [], [], []), ([(2, 0, 0, [150]), (0, 0, 23, []), (0, -2147483648, 2147483647, []), (0, -2147483647, 2147483647, []), (0, 0, 0, [])], [], [4], [], [], []), ([(2, 0, 0, [150]), (0, 0, 23, []), (0, -2147483648, 2147483647, []), (0, -2147483648, 2147483647, []), (0, 1, 1, [])], [], [4], [], [], [])], [], (0, [], [], [], []))
abbrev b_Mo_neighbours : ByteArray := prog_15_method_54_code
def y_Mo_neighbours : MethodName := ⟨"DrawingHouseModel", "neighbours", "(I)I"⟩
abbrev z_Mo_neighbours : List Cond := Cond.code y_Mo_neighbours b_Mo_neighbours 4 (some .int) :: lw_g
def e_Mo_neighbours : en_T := ([(2, 0, 0, [150]), (0, 0, 23, [])], some (0, -2147483648, 2147483647, []), true, 8, 0, 0, [], [], (0, [], [], [], []))
abbrev b_Mo_next : ByteArray := prog_15_method_28_code
def y_Mo_next : MethodName := ⟨"DrawingHouseModel", "next", "()V"⟩
abbrev z_Mo_next : List Cond := Cond.code y_Mo_next b_Mo_next 3 none :: lw_g
def e_Mo_next : en_T := ([(2, 0, 0, [150])], none, false, 8, 0, 0, [], [], (0, [(13, 11), (13, 12), (13, 13), (13, 14), (13, 15)], [(20, [1, 0], [30, 0, 1, 0, 0, -1, 1, 11])], [(20, [0, 0], [30, 0, 1, 1, 15, -1, 1, 11]), (20, [0], [50, 3, 0, 12, 11, 15, 2, 21, 4, 7, 1, 3, 2, 0, 12, 0, 1, 0, 3, 2, 0, 11, 4, 3, 2, 0, 15, 0, 8, 3, 7, 1, 3, 2, 0, 12, 0, 0, 0, 7, 4, 3, 2, 0, 15, 0, 1, 2, 0, 11]), (20, [1, 0], [30, 0, 1, 0, 0, -1, 1, 15])], [(0, 0, 2000, [])]))
abbrev b_Mo_plane : ByteArray := prog_15_method_62_code
def y_Mo_plane : MethodName := ⟨"DrawingHouseModel", "plane", "()V"⟩
abbrev z_Mo_plane : List Cond := Cond.code y_Mo_plane b_Mo_plane 2 none :: lw_g
def e_Mo_plane : en_T := ([(2, 0, 0, [150])], none, false, 7, 0, 0, [], [], (327376366762122253677625402528447396402928889626624, [(13, 31), (13, 32)], [], [(20, [0], [30, 48, 1, 1, 32]), (20, [0], [30, 24, 1, 1, 31])], []))
abbrev b_Mo_sizeOfGroup : ByteArray := prog_15_method_102_code
def y_Mo_sizeOfGroup : MethodName := ⟨"DrawingHouseModel", "sizeOfGroup", "(I)I"⟩
abbrev z_Mo_sizeOfGroup : List Cond := Cond.code y_Mo_sizeOfGroup b_Mo_sizeOfGroup 4 (some .int) :: lw_g
def e_Mo_sizeOfGroup : en_T := ([(2, 0, 0, [150]), (0, -1, 7, [])], some (0, -2147483648, 2147483647, []), true, 7, 0, 0, [], [], (0, [], [], [], []))
abbrev b_Mo_touch : ByteArray := prog_15_method_206_code
def y_Mo_touch : MethodName := ⟨"DrawingHouseModel", "touch", "(II)Z"⟩
abbrev z_Mo_touch : List Cond := Cond.code y_Mo_touch b_Mo_touch 7 (some .boolean) :: lw_g
def e_Mo_touch : en_T := ([(2, 0, 0, [150]), (0, 0, 23, []), (0, 0, 23, [])], some (0, 0, 1, []), true, 7, 0, 0, [], [], (0, [], [], [], []))
abbrev b_Mo_turnRound : ByteArray := prog_15_method_85_code
def y_Mo_turnRound : MethodName := ⟨"DrawingHouseModel", "turnRound", "(II)V"⟩
abbrev z_Mo_turnRound : List Cond := Cond.code y_Mo_turnRound b_Mo_turnRound 5 none :: lw_g
def e_Mo_turnRound : en_T := ([(2, 0, 0, [150]), (0, 0, 24, []), (0, 0, 79, [])], none, false, 8, 0, 0, [], [], (1122433257470133441180429951526105359095756193005568, [], [], [], []))
abbrev b_Ho_searchMap : ByteArray := prog_1_method_35_code
def y_Ho_searchMap : MethodName := ⟨"DrawingHouse", "searchMap", "(LDrawingHouse$Graph;LDrawingHouse$Graph;[I)I"⟩
abbrev z_Ho_searchMap : List Cond := Cond.code y_Ho_searchMap b_Ho_searchMap 9 (some .int) :: lw_g
def e_Ho_searchMap : en_T := ([(2, 0, 0, [12]), (2, 0, 0, [3]), (2, 0, 0, [3]), (2, 0, 0, [269])], some (0, -2, 1, []), false, 9, 0, 0, [], [], (948568795032094272909893509191171341133987714380927500611236528192824358010355712, [(12, 8)], [], [], []))
abbrev b_Dr_isOnPiece : ByteArray := prog_2_method_24_code
def y_Dr_isOnPiece : MethodName := ⟨"DrawingHouse$Drawing", "isOnPiece", "(IIII)Z"⟩
abbrev z_Dr_isOnPiece : List Cond := Cond.code y_Dr_isOnPiece b_Dr_isOnPiece 9 (some .boolean) :: lw_g
def e_Dr_isOnPiece : en_T := ([(2, 0, 0, [0]), (0, 0, 47, []), (0, 0, 24, []), (0, -2147483648, 2147483647, []), (0, -2147483648, 2147483647, [])], some (0, 0, 1, []), true, 8, 0, 0, [], [], (0, [], [], [], []))
abbrev b_Dr_measure : ByteArray := prog_2_method_16_code
def y_Dr_measure : MethodName := ⟨"DrawingHouse$Drawing", "measure", "()V"⟩
abbrev z_Dr_measure : List Cond := Cond.code y_Dr_measure b_Dr_measure 3 none :: lw_g
def e_Dr_measure : en_T := ([(2, 0, 0, [0])], none, false, 7, 0, 0, [], [], (0, [(0, 17), (0, 18), (0, 19), (0, 20)], [], [], []))
abbrev b_Dr_report : ByteArray := prog_2_method_6_code
def y_Dr_report : MethodName := ⟨"DrawingHouse$Drawing", "report", "(II)I"⟩
abbrev z_Dr_report : List Cond := Cond.code y_Dr_report b_Dr_report 3 (some .int) :: lw_g
def e_Dr_report : en_T := ([(2, 0, 0, [0]), (0, -2147483648, 2147483647, []), (0, -2147483648, 2147483647, [])], some (0, -2147483648, 2147483647, []), true, 8, 0, 0, [], [], (0, [], [], [], []))
abbrev b_Em_splitCycle : ByteArray := prog_3_method_13_code
def y_Em_splitCycle : MethodName := ⟨"DrawingHouse$Embedder", "splitCycle", "()V"⟩
abbrev z_Em_splitCycle : List Cond := Cond.code y_Em_splitCycle b_Em_splitCycle 7 none :: lw_g
def e_Em_splitCycle : en_T := ([(2, 0, 0, [1])], none, false, 8, 0, 0, [], [], (8053063680, [(1, 6), (1, 7)], [], [], []))
abbrev b_Fa_orderLarge : ByteArray := prog_4_method_23_code
def y_Fa_orderLarge : MethodName := ⟨"DrawingHouse$Facts", "orderLarge", "(LDrawingHouse$Graph;I)V"⟩
abbrev z_Fa_orderLarge : List Cond := Cond.code y_Fa_orderLarge b_Fa_orderLarge 9 none :: lw_g
def e_Fa_orderLarge : en_T := ([(2, 0, 0, [2]), (2, 0, 0, [3]), (0, 8, 24, [])], none, false, 8, 0, 0, [], [], (35184372088832, [], [], [], []))
abbrev b_Gr_removeNode : ByteArray := prog_5_method_24_code
def y_Gr_removeNode : MethodName := ⟨"DrawingHouse$Graph", "removeNode", "(I)V"⟩
abbrev z_Gr_removeNode : List Cond := Cond.code y_Gr_removeNode b_Gr_removeNode 3 none :: lw_g
def e_Gr_removeNode : en_T := ([(2, 0, 0, [3]), (0, 0, 23, [])], none, false, 8, 0, 0, [], [], (1801158375971487744, [(3, 0), (3, 1)], [(20, [0], [30, -1, -1, 1, 0]), (20, [1, 0], [30, -1, 1, 0, 0, -1, 1, 0])], [], []))
abbrev b_Gr_step : ByteArray := prog_5_method_25_code
def y_Gr_step : MethodName := ⟨"DrawingHouse$Graph", "step", "(I)Z"⟩
abbrev z_Gr_step : List Cond := Cond.code y_Gr_step b_Gr_step 2 (some .boolean) :: lw_g
def e_Gr_step : en_T := ([(2, 0, 0, [3]), (0, -2147483648, 2147483647, [])], some (0, 0, 1, []), false, 9, 0, 0, [([(2, 0, 0, [3]), (0, -2147483648, 2147483647, []), (3, 0, 0, [61]), (0, 0, 0, [])], [], [3], [((0, 16), 2)], [], []), ([(2, 0, 0, [3]), (0, -2147483648, 2147483647, []), (2, 0, 0, [61]), (0, 0, 0, [])], [], [3], [((0, 16), 2)], [], []), ([(2, 0, 0, [3]), (0, 1, 1, []), (2, 0, 0, [61]), (0, 0, 0, [])], [], [3], [((0, 16), 2)], [], []), ([(2, 0, 0, [3]), (0, 1, 1, []), (2, 0, 0, [61]), (0, 1, 1, [])], [], [3], [((0, 16), 2)], [], []), ([(2, 0, 0, [3]), (0, 0, 0, []), (2, 0, 0, [61]), (0, 0, 0, [])], [], [3], [((0, 16), 2)], [], []), ([(2, 0, 0, [3]), (0, 0, 0, []), (2, 0, 0, [61]), (0, 1, 1, [])], [], [3], [((0, 16), 2)], [], [])], [((0, 16), (3, 0, 0, [61]))], (1801158375971487744, [(3, 0), (3, 1), (3, 17), (3, 18)], [], [], []))
abbrev b_Pl_endOfRow : ByteArray := prog_8_method_14_code
def y_Pl_endOfRow : MethodName := ⟨"DrawingHouse$PlainWays", "endOfRow", "(II)I"⟩
abbrev z_Pl_endOfRow : List Cond := Cond.code y_Pl_endOfRow b_Pl_endOfRow 9 (some .int) :: lw_g
def e_Pl_endOfRow : en_T := ([(2, 0, 0, [6]), (0, 0, 31, []), (0, -2147483648, 2147483647, [])], some (0, 1, 32, []), false, 7, 0, 0, [], [], (0, [(6, 13), (6, 14)], [], [], []))
abbrev b_Pn_cutFace : ByteArray := prog_9_method_7_code
def y_Pn_cutFace : MethodName := ⟨"DrawingHouse$PlanarWays", "cutFace", "(I)Z"⟩
abbrev z_Pn_cutFace : List Cond := Cond.code y_Pn_cutFace b_Pn_cutFace 11 (some .boolean) :: lw_g
def e_Pn_cutFace : en_T := ([(2, 0, 0, [7]), (0, 0, 143, [])], some (0, 0, 1, []), false, 9, 0, 0, [], [], (20906948623622459232666436288661343327748096, [(5, 6)], [], [], []))
abbrev b_Pn_placeByOrder : ByteArray := prog_9_method_12_code
def y_Pn_placeByOrder : MethodName := ⟨"DrawingHouse$PlanarWays", "placeByOrder", "(LDrawingHouse$Drawing;)V"⟩
abbrev z_Pn_placeByOrder : List Cond := Cond.code y_Pn_placeByOrder b_Pn_placeByOrder 4 none :: lw_g
def e_Pn_placeByOrder : en_T := ([(2, 0, 0, [7]), (2, 0, 0, [0])], none, false, 8, 0, 0, [], [], (111553252820084187331709882122240, [(7, 3)], [], [], []))
abbrev b_Re_advance : ByteArray := prog_10_method_9_code
def y_Re_advance : MethodName := ⟨"DrawingHouse$Reader", "advance", "()V"⟩
abbrev z_Re_advance : List Cond := Cond.code y_Re_advance b_Re_advance 2 none :: lw_g
def e_Re_advance : en_T := ([(2, 0, 0, [8])], none, false, 8, 0, 0, [], [], (0, [(8, 6), (8, 7), (8, 8), (8, 9)], [(20, [0, 1], [30, 0, 1, 1, 9, -1, 0, 0]), (20, [0, 1], [30, 0, -1, 1, 9, 1, 0, 0])], [(20, [0, 0, 1], [31, 1, 3, 1, 1, 7, 0, 1, 1, 9, -1, 0, 0]), (20, [0, 0, 1], [31, 1, 3, 1, 1, 7, 0, -1, 1, 9, 1, 0, 0]), (20, [0, 0, 0, 0], [31, 1, -3, -1, 1, 7, 4008, 1, 1, 6, -1, 1, 8, 2000, 1, 7]), (20, [0, 0], [30, 0, 1, 1, 8, -1, 1, 6])], [(0, -2147483648, 1000000, [])]))
abbrev b_Mo_blocks : ByteArray := prog_15_method_66_code
def y_Mo_blocks : MethodName := ⟨"DrawingHouseModel", "blocks", "()I"⟩
abbrev z_Mo_blocks : List Cond := Cond.code y_Mo_blocks b_Mo_blocks 4 (some .int) :: lw_g
def e_Mo_blocks : en_T := ([(2, 0, 0, [150])], some (0, 0, 80, []), false, 8, 0, 0, [], [], (1498221865968841854023552414138279630524787848118272, [], [], [], []))
abbrev b_Mo_chordCrossings : ByteArray := prog_15_method_171_code
def y_Mo_chordCrossings : MethodName := ⟨"DrawingHouseModel", "chordCrossings", "(I)I"⟩
abbrev z_Mo_chordCrossings : List Cond := Cond.code y_Mo_chordCrossings b_Mo_chordCrossings 9 (some .int) :: lw_g
def e_Mo_chordCrossings : en_T := ([(2, 0, 0, [150]), (0, 0, 24, [])], some (0, -2147483648, 2147483647, []), false, 7, 0, 0, [], [], (14134776518227074636666380005943348126619871175004951664972849610340958208, [], [], [], []))
abbrev b_Mo_farFrom : ByteArray := prog_15_method_50_code
def y_Mo_farFrom : MethodName := ⟨"DrawingHouseModel", "farFrom", "(I)V"⟩
abbrev z_Mo_farFrom : List Cond := Cond.code y_Mo_farFrom b_Mo_farFrom 6 none :: lw_g
def e_Mo_farFrom : en_T := ([(2, 0, 0, [150]), (0, 0, 23, [])], none, false, 7, 0, 0, [], [], (730750818665451459101842416358141509827966271488, [], [], [], []))
abbrev b_Mo_nearer : ByteArray := prog_15_method_163_code
def y_Mo_nearer : MethodName := ⟨"DrawingHouseModel", "nearer", "(III)V"⟩
abbrev z_Mo_nearer : List Cond := Cond.code y_Mo_nearer b_Mo_nearer 9 none :: lw_g
def e_Mo_nearer : en_T := ([(2, 0, 0, [150]), (0, -1, 23, []), (0, 0, 23, []), (0, 0, 24, [])], none, false, 7, 0, 0, [], [], (803469022129495137770981046170581301261101496891396417650688, [], [(20, [0], [50, 1, 3, 5, 2, 128, 127, 5, 2, 0, 24, 4, 14, 0, 6, 4, 2, 7, 0, 0, 1, 3, 0, 2, 2, 0, 5, 2, 9, 0, 2, 0, -1, 3, 0, 128, 7, 0, 2, 9, 0, 5, 3, 0, 128, 7, 0, 0, 24, 4, 9, 0, 2, 0, 0, 3, 0, 127, 7, 0, 2, 17, 0, 9, 4, 5, 3, 0, 127, 7, 0, 0, 1, 3, 0, 2, 2, 0, 5, 2, 12, 0, 2, 0, 0, 3, 0, 128, 3, 0, 127, 7, 0, 0, 12, 4, 8, 3, 0, 128, 3, 0, 127, 7, 0, 0, 1, 3, 0, 128, 7, 0])], [(20, [0], [50, 1, 3, 5, 2, 128, 127, 5, 2, 0, 24, 4, 14, 0, 6, 4, 2, 7, 0, 0, 1, 3, 0, 2, 2, 0, 5, 2, 9, 0, 2, 0, -1, 3, 0, 128, 7, 0, 2, 9, 0, 5, 3, 0, 128, 7, 0, 0, 24, 4, 9, 0, 2, 0, 0, 3, 0, 127, 7, 0, 2, 17, 0, 9, 4, 5, 3, 0, 127, 7, 0, 0, 1, 3, 0, 2, 2, 0, 5, 2, 12, 0, 2, 0, 0, 3, 0, 128, 3, 0, 127, 7, 0, 0, 12, 4, 8, 3, 0, 128, 3, 0, 127, 7, 0, 0, 1, 3, 0, 128, 7, 0])], []))
abbrev b_Mo_reaching : ByteArray := prog_15_method_52_code
def y_Mo_reaching : MethodName := ⟨"DrawingHouseModel", "reaching", "(Z)V"⟩
abbrev z_Mo_reaching : List Cond := Cond.code y_Mo_reaching b_Mo_reaching 6 none :: lw_g
def e_Mo_reaching : en_T := ([(2, 0, 0, [150]), (0, 0, 1, [])], none, false, 7, 0, 0, [], [], (2923003274661805836407369665432566039311865085952, [], [], [], []))
abbrev b_Dr_isStruck : ByteArray := prog_2_method_29_code
def y_Dr_isStruck : MethodName := ⟨"DrawingHouse$Drawing", "isStruck", "(II)Z"⟩
abbrev z_Dr_isStruck : List Cond := Cond.code y_Dr_isStruck b_Dr_isStruck 4 (some .boolean) :: lw_g
def e_Dr_isStruck : en_T := ([(2, 0, 0, [0]), (0, 0, 47, []), (0, 0, 23, [])], some (0, 0, 1, []), true, 9, 0, 0, [], [], (0, [], [], [], []))
abbrev b_Dr_wholeArea : ByteArray := prog_2_method_33_code
def y_Dr_wholeArea : MethodName := ⟨"DrawingHouse$Drawing", "wholeArea", "()J"⟩
abbrev z_Dr_wholeArea : List Cond := Cond.code y_Dr_wholeArea b_Dr_wholeArea 1 (some .long) :: lw_g
def e_Dr_wholeArea : en_T := ([(2, 0, 0, [0])], some (1, -9223372036854775808, 9223372036854775807, []), false, 8, 0, 0, [], [], (0, [(0, 17), (0, 18), (0, 19), (0, 20)], [], [], []))
abbrev b_Em_findWay : ByteArray := prog_3_method_12_code
def y_Em_findWay : MethodName := ⟨"DrawingHouse$Embedder", "findWay", "()Z"⟩
abbrev z_Em_findWay : List Cond := Cond.code y_Em_findWay b_Em_findWay 3 (some .boolean) :: lw_g
def e_Em_findWay : en_T := ([(2, 0, 0, [1])], some (0, 0, 1, []), false, 8, 0, 0, [([(2, 0, 0, [1]), (2, 0, 0, [5, 149]), (0, 0, 0, [])], [], [2], [((0, 0), 1)], [], []), ([(2, 0, 0, [1]), (2, 0, 0, [5, 149]), (0, 1, 1, [])], [], [2], [((0, 0), 1)], [], [])], [((0, 0), (2, 0, 0, [5, 149]))], (121694457621910022543735181541376, [(1, 15)], [], [], []))
abbrev b_Fa_blocksOf_at_Grtail_Grhead_Grnear_Fablock : ByteArray := prog_4_method_7_code
def y_Fa_blocksOf_at_Grtail_Grhead_Grnear_Fablock : MethodName := ⟨"DrawingHouse$Facts", "blocksOf", "(II[I[I[I[I)I"⟩
abbrev z_Fa_blocksOf_at_Grtail_Grhead_Grnear_Fablock : List Cond := Cond.code y_Fa_blocksOf_at_Grtail_Grhead_Grnear_Fablock b_Fa_blocksOf_at_Grtail_Grhead_Grnear_Fablock 11 (some .int) :: lw_g
def e_Fa_blocksOf_at_Grtail_Grhead_Grnear_Fablock : en_T := ([(0, 0, 24, []), (0, 0, 48, []), (2, 0, 0, [52]), (2, 0, 0, [53]), (2, 0, 0, [59]), (2, 0, 0, [38])], some (0, 0, 48, []), false, 8, 0, 0, [], [], (274945015808, [], [], [], []))
abbrev b_Fa_blocksOf_at_Netail_Nptail_Nehead_Nphead_Nenear_Npnear_Emblock : ByteArray := prog_4_method_7_code
def y_Fa_blocksOf_at_Netail_Nptail_Nehead_Nphead_Nenear_Npnear_Emblock : MethodName := ⟨"DrawingHouse$Facts", "blocksOf", "(II[I[I[I[I)I"⟩
abbrev z_Fa_blocksOf_at_Netail_Nptail_Nehead_Nphead_Nenear_Npnear_Emblock : List Cond := Cond.code y_Fa_blocksOf_at_Netail_Nptail_Nehead_Nphead_Nenear_Npnear_Emblock b_Fa_blocksOf_at_Netail_Nptail_Nehead_Nphead_Nenear_Npnear_Emblock 11 (some .int) :: lw_g
def e_Fa_blocksOf_at_Netail_Nptail_Nehead_Nphead_Nenear_Npnear_Emblock : en_T := ([(0, 0, 25, []), (0, 0, 72, []), (2, 0, 0, [80, 140]), (2, 0, 0, [81, 141]), (2, 0, 0, [82, 142]), (2, 0, 0, [26])], some (0, 0, 72, []), false, 8, 0, 0, [], [], (274945015808, [], [], [], []))
abbrev b_St_solve : ByteArray := prog_12_method_6_code
def y_St_solve : MethodName := ⟨"DrawingHouse$Stretch", "solve", "()V"⟩
abbrev z_St_solve : List Cond := Cond.code y_St_solve b_St_solve 3 none :: lw_g
def e_St_solve : en_T := ([(2, 0, 0, [10])], none, false, 8, 0, 0, [], [], (38547611877762560314210404748129992704, [], [], [], []))
abbrev b_Mo_at2 : ByteArray := prog_15_method_108_code
def y_Mo_at2 : MethodName := ⟨"DrawingHouseModel", "at", "(IIII)I"⟩
abbrev z_Mo_at2 : List Cond := Cond.code y_Mo_at2 b_Mo_at2 6 (some .int) :: lw_g
def e_Mo_at2 : en_T := ([(2, 0, 0, [150]), (0, -2147483648, 2147483647, []), (0, -2147483648, 2147483647, []), (0, -2147483648, 2147483647, []), (0, -2147483648, 2147483647, [])], some (0, -2147483648, 2147483647, []), false, 8, 0, 0, [], [], (0, [(13, 5)], [], [], []))
abbrev b_Mo_bestOrder : ByteArray := prog_15_method_119_code
def y_Mo_bestOrder : MethodName := ⟨"DrawingHouseModel", "bestOrder", "()V"⟩
abbrev z_Mo_bestOrder : List Cond := Cond.code y_Mo_bestOrder b_Mo_bestOrder 8 none :: lw_g
def e_Mo_bestOrder : en_T := ([(2, 0, 0, [150])], none, false, 7, 0, 0, [], [], (631873750011343120187508166102022593913370572403294667525865865216, [], [], [], []))
abbrev b_Mo_dropNode : ByteArray := prog_15_method_48_code
def y_Mo_dropNode : MethodName := ⟨"DrawingHouseModel", "dropNode", "(I)V"⟩
abbrev z_Mo_dropNode : List Cond := Cond.code y_Mo_dropNode b_Mo_dropNode 4 none :: lw_g
def e_Mo_dropNode : en_T := ([(2, 0, 0, [150]), (0, 0, 23, [])], none, false, 8, 0, 0, [], [], (5708990770823839524233143877797980545530986496, [], [(20, [1, 0], [30, -1, 1, 0, 0, -1, 3, 2005000])], [], []))
abbrev b_Mo_greedyOrder : ByteArray := prog_15_method_121_code
def y_Mo_greedyOrder : MethodName := ⟨"DrawingHouseModel", "greedyOrder", "()V"⟩
abbrev z_Mo_greedyOrder : List Cond := Cond.code y_Mo_greedyOrder b_Mo_greedyOrder 13 none :: lw_g
def e_Mo_greedyOrder : en_T := ([(2, 0, 0, [150])], none, false, 7, 0, 0, [], [], (421249166674228752637678660058293402090319712467328523640974082048, [], [], [], []))
abbrev b_Mo_isInCore : ByteArray := prog_15_method_56_code
def y_Mo_isInCore : MethodName := ⟨"DrawingHouseModel", "isInCore", "(II)Z"⟩
abbrev z_Mo_isInCore : List Cond := Cond.code y_Mo_isInCore b_Mo_isInCore 7 (some .boolean) :: lw_g
def e_Mo_isInCore : en_T := ([(2, 0, 0, [150]), (0, 0, 23, []), (0, -2147483648, 2147483647, [])], some (0, 0, 1, []), false, 8, 0, 0, [], [], (5846006549323611672814739330865132078623730171904, [], [], [], []))
abbrev b_Mo_isShared : ByteArray := prog_15_method_204_code
def y_Mo_isShared : MethodName := ⟨"DrawingHouseModel", "isShared", "(IIJJ)Z"⟩
abbrev z_Mo_isShared : List Cond := Cond.code y_Mo_isShared b_Mo_isShared 8 (some .boolean) :: lw_g
def e_Mo_isShared : en_T := ([(2, 0, 0, [150]), (0, 0, 47, []), (0, 0, 47, []), (1, -2147483648, 2147483647, []), (1, -2147483648, 2147483647, [])], some (0, 0, 1, []), true, 8, 0, 0, [], [], (0, [], [], [], []))
abbrev b_Mo_letter : ByteArray := prog_15_method_104_code
def y_Mo_letter : MethodName := ⟨"DrawingHouseModel", "letter", "(IIII)I"⟩
abbrev z_Mo_letter : List Cond := Cond.code y_Mo_letter b_Mo_letter 5 (some .int) :: lw_g
def e_Mo_letter : en_T := ([(2, 0, 0, [150]), (0, -2147483648, 2147483647, []), (0, -2147483648, 2147483647, []), (0, -2147483648, 2147483647, []), (0, -2147483648, 2147483647, [])], some (0, -1, 255, []), false, 8, 0, 0, [], [], (0, [(13, 5)], [], [], []))
abbrev b_Mo_parts : ByteArray := prog_15_method_51_code
def y_Mo_parts : MethodName := ⟨"DrawingHouseModel", "parts", "()I"⟩
abbrev z_Mo_parts : List Cond := Cond.code y_Mo_parts b_Mo_parts 4 (some .int) :: lw_g
def e_Mo_parts : en_T := ([(2, 0, 0, [150])], some (0, 0, 24, []), false, 8, 0, 0, [], [], (822094670998632891489572718402909198556462055424, [], [], [], []))
abbrev b_Mo_put : ByteArray := prog_15_method_110_code
def y_Mo_put : MethodName := ⟨"DrawingHouseModel", "put", "(IIIII)Z"⟩
abbrev z_Mo_put : List Cond := Cond.code y_Mo_put b_Mo_put 6 (some .boolean) :: lw_g
def e_Mo_put : en_T := ([(2, 0, 0, [150]), (0, -2147483648, 2147483647, []), (0, -2147483648, 2147483647, []), (0, -2147483648, 2147483647, []), (0, -2147483648, 2147483647, []), (0, -2147483648, 2147483647, [])], some (0, 0, 1, []), false, 8, 0, 0, [], [], (5296304589232511894486447325831468538586362406266529120256, [(13, 5)], [], [], []))
abbrev b_Mo_putBest : ByteArray := prog_15_method_173_code
def y_Mo_putBest : MethodName := ⟨"DrawingHouseModel", "putBest", "(II)V"⟩
abbrev z_Mo_putBest : List Cond := Cond.code y_Mo_putBest b_Mo_putBest 9 none :: lw_g
def e_Mo_putBest : en_T := ([(2, 0, 0, [150]), (0, 1, 23, []), (0, 9, 24, [])], none, false, 8, 0, 0, [], [], (14134776728851657973780753401779403493960735812795142466071072118962913280, [], [(20, [0, 1], [50, 0, 1, 96, 6, 2, 0, 26, 1, 5, 3, 0, 96, 7, 0, 1, 1])], [], []))
abbrev b_Mo_same : ByteArray := prog_15_method_59_code
def y_Mo_same : MethodName := ⟨"DrawingHouseModel", "same", "(II)I"⟩
abbrev z_Mo_same : List Cond := Cond.code y_Mo_same b_Mo_same 9 (some .int) :: lw_g
def e_Mo_same : en_T := ([(2, 0, 0, [150]), (0, -2147483648, 2147483647, []), (0, -2147483648, 2147483647, [])], some (0, -2, 1, []), false, 8, 0, 0, [], [], (35076039295941670036888435985190792471742381031424, [(13, 25), (13, 26), (13, 27), (13, 28), (13, 29), (13, 30)], [], [], []))
abbrev b_Mo_shade : ByteArray := prog_15_method_231_code
def y_Mo_shade : MethodName := ⟨"DrawingHouseModel", "shade", "(IIII)I"⟩
abbrev z_Mo_shade : List Cond := Cond.code y_Mo_shade b_Mo_shade 5 (some .int) :: lw_g
def e_Mo_shade : en_T := ([(2, 0, 0, [150]), (0, -2147483648, 2147483647, []), (0, -2147483648, 2147483647, []), (0, -2147483648, 2147483647, []), (0, -2147483648, 2147483647, [])], some (0, -1, 255, []), false, 8, 0, 0, [], [], (0, [(13, 5)], [], [], []))
abbrev b_Mo_strong : ByteArray := prog_15_method_53_code
def y_Mo_strong : MethodName := ⟨"DrawingHouseModel", "strong", "(Z)I"⟩
abbrev z_Mo_strong : List Cond := Cond.code y_Mo_strong b_Mo_strong 5 (some .int) :: lw_g
def e_Mo_strong : en_T := ([(2, 0, 0, [150]), (0, 0, 1, [])], some (0, 0, 24, []), false, 8, 0, 0, [], [], (3288378683994531565958290873611636794225848221696, [], [], [], []))
abbrev b_Ho_told : ByteArray := prog_1_method_19_code
def y_Ho_told : MethodName := ⟨"DrawingHouse", "told", "(III)I"⟩
abbrev z_Ho_told : List Cond := Cond.code y_Ho_told b_Ho_told 4 (some .int) :: lw_g
def e_Ho_told : en_T := ([(2, 0, 0, [12]), (0, -2147483648, 2147483647, []), (0, -2147483648, 2147483647, []), (0, -2147483648, 2147483647, [])], some (0, -2147483648, 2147483647, []), true, 9, 0, 0, [([(2, 0, 0, [12]), (0, -2147483648, -1, []), (0, -2147483648, 2147483647, []), (0, -2147483648, 2147483647, []), (0, -1, -1, [])], [], [4], [], [], []), ([(2, 0, 0, [12]), (0, 4, 2147483647, []), (0, -2147483648, 2147483647, []), (0, -2147483648, 2147483647, []), (0, -1, -1, [])], [], [4], [], [], []), ([(2, 0, 0, [12]), (0, 0, 3, []), (0, -2147483648, 2147483647, []), (0, -2147483648, 2147483647, []), (0, -2147483648, 2147483647, [])], [], [4], [], [], [])], [], (0, [], [], [], []))
abbrev b_Dr_clash : ByteArray := prog_2_method_25_code
def y_Dr_clash : MethodName := ⟨"DrawingHouse$Drawing", "clash", "(IIIII)Z"⟩
abbrev z_Dr_clash : List Cond := Cond.code y_Dr_clash b_Dr_clash 17 (some .boolean) :: lw_g
def e_Dr_clash : en_T := ([(2, 0, 0, [0]), (0, 0, 47, []), (0, 0, 24, []), (0, 1, 47, []), (0, 0, 24, []), (0, -1, 23, [])], some (0, 0, 1, []), true, 9, 0, 0, [], [], (0, [], [], [], []))
abbrev b_Dr_countStruckNodes : ByteArray := prog_2_method_28_code
def y_Dr_countStruckNodes : MethodName := ⟨"DrawingHouse$Drawing", "countStruckNodes", "()J"⟩
abbrev z_Dr_countStruckNodes : List Cond := Cond.code y_Dr_countStruckNodes b_Dr_countStruckNodes 5 (some .long) :: lw_g
def e_Dr_countStruckNodes : en_T := ([(2, 0, 0, [0])], some (1, -9223372036854775808, 9223372036854775807, []), true, 10, 0, 0, [], [], (0, [], [], [], []))
abbrev b_Dr_putLabel : ByteArray := prog_2_method_14_code
def y_Dr_putLabel : MethodName := ⟨"DrawingHouse$Drawing", "putLabel", "(I)V"⟩
abbrev z_Dr_putLabel : List Cond := Cond.code y_Dr_putLabel b_Dr_putLabel 5 none :: lw_g
def e_Dr_putLabel : en_T := ([(2, 0, 0, [0]), (0, 0, 47, [])], none, false, 9, 0, 0, [], [], (50331648, [], [], [], []))
abbrev b_Em_beginBlock : ByteArray := prog_3_method_6_code
def y_Em_beginBlock : MethodName := ⟨"DrawingHouse$Embedder", "beginBlock", "(I)I"⟩
abbrev z_Em_beginBlock : List Cond := Cond.code y_Em_beginBlock b_Em_beginBlock 7 (some .int) :: lw_g
def e_Em_beginBlock : en_T := ([(2, 0, 0, [1]), (0, 0, 71, [])], some (0, -2147483648, 2147483647, []), false, 8, 0, 0, [], [((0, 0), (2, 0, 0, [5, 149]))], (121694457621910022543747529572352, [(1, 5), (1, 6), (1, 7), (1, 15)], [], [], []))
abbrev b_Pl_layForces : ByteArray := prog_8_method_22_code
def y_Pl_layForces : MethodName := ⟨"DrawingHouse$PlainWays", "layForces", "(I)V"⟩
abbrev z_Pl_layForces : List Cond := Cond.code y_Pl_layForces b_Pl_layForces 6 none :: lw_g
def e_Pl_layForces : en_T := ([(2, 0, 0, [6]), (0, -1, 512, [])], none, false, 8, 0, 0, [], [((0, 0), (2, 0, 0, [3])), ((0, 1), (2, 0, 0, [0]))], (4753689750855860255612637069312, [], [], [], []))
abbrev b_Pn_findOrder : ByteArray := prog_9_method_8_code
def y_Pn_findOrder : MethodName := ⟨"DrawingHouse$PlanarWays", "findOrder", "()V"⟩
abbrev z_Pn_findOrder : List Cond := Cond.code y_Pn_findOrder b_Pn_findOrder 6 none :: lw_g
def e_Pn_findOrder : en_T := ([(2, 0, 0, [7])], none, false, 8, 0, 0, [], [], (96341445617345434513749443608576, [(7, 3)], [], [], []))
abbrev b_Pn_joinParts : ByteArray := prog_9_method_4_code
def y_Pn_joinParts : MethodName := ⟨"DrawingHouse$PlanarWays", "joinParts", "(LDrawingHouse$Facts;)V"⟩
abbrev z_Pn_joinParts : List Cond := Cond.code y_Pn_joinParts b_Pn_joinParts 5 none :: lw_g
def e_Pn_joinParts : en_T := ([(2, 0, 0, [7]), (2, 0, 0, [2])], none, false, 10, 0, 0, [], [], (645327814182479907775950941337837469354164224, [(5, 6), (5, 13)], [], [], []))
abbrev b_Sy_runRules : ByteArray := prog_13_method_21_code
def y_Sy_runRules : MethodName := ⟨"DrawingHouse$Styler", "runRules", "(I[II)V"⟩
abbrev z_Sy_runRules : List Cond := Cond.code y_Sy_runRules b_Sy_runRules 8 none :: lw_g
def e_Sy_runRules : en_T := ([(2, 0, 0, [11]), (0, 0, 1, []), (2, 0, 0, [23]), (0, 0, 213, [])], none, false, 8, 0, 0, [], [], (680564733841876926926749214863544811520, [(11, 15)], [], [], []))
abbrev b_Mo_children : ByteArray := prog_15_method_162_code
def y_Mo_children : MethodName := ⟨"DrawingHouseModel", "children", "(I)V"⟩
abbrev z_Mo_children : List Cond := Cond.code y_Mo_children b_Mo_children 5 none :: lw_g
def e_Mo_children : en_T := ([(2, 0, 0, [150]), (0, 0, 23, [])], none, false, 8, 0, 0, [], [], (803469022129495137770981046170581301261101496891396417650688, [], [(20, [0], [50, 1, 3, 5, 2, 128, 127, 5, 2, 0, 24, 4, 14, 0, 6, 4, 2, 7, 0, 0, 1, 3, 0, 2, 2, 0, 5, 2, 9, 0, 2, 0, -1, 3, 0, 128, 7, 0, 2, 9, 0, 5, 3, 0, 128, 7, 0, 0, 24, 4, 9, 0, 2, 0, 0, 3, 0, 127, 7, 0, 2, 17, 0, 9, 4, 5, 3, 0, 127, 7, 0, 0, 1, 3, 0, 2, 2, 0, 5, 2, 12, 0, 2, 0, 0, 3, 0, 128, 3, 0, 127, 7, 0, 0, 12, 4, 8, 3, 0, 128, 3, 0, 127, 7, 0, 0, 1, 3, 0, 128, 7, 0])], [(20, [0], [50, 1, 3, 5, 2, 128, 127, 5, 2, 0, 24, 4, 14, 0, 6, 4, 2, 7, 0, 0, 1, 3, 0, 2, 2, 0, 5, 2, 9, 0, 2, 0, -1, 3, 0, 128, 7, 0, 2, 9, 0, 5, 3, 0, 128, 7, 0, 0, 24, 4, 9, 0, 2, 0, 0, 3, 0, 127, 7, 0, 2, 17, 0, 9, 4, 5, 3, 0, 127, 7, 0, 0, 1, 3, 0, 2, 2, 0, 5, 2, 12, 0, 2, 0, 0, 3, 0, 128, 3, 0, 127, 7, 0, 0, 12, 4, 8, 3, 0, 128, 3, 0, 127, 7, 0, 0, 1, 3, 0, 128, 7, 0])], []))
abbrev b_Mo_core : ByteArray := prog_15_method_55_code
def y_Mo_core : MethodName := ⟨"DrawingHouseModel", "core", "(I)I"⟩
abbrev z_Mo_core : List Cond := Cond.code y_Mo_core b_Mo_core 3 (some .int) :: lw_g
def e_Mo_core : en_T := ([(2, 0, 0, [150]), (0, 0, 23, [])], some (0, -2147483648, 2147483647, []), false, 9, 0, 0, [], [], (5846006549323611672814739330865132078623730171904, [], [], [], []))
abbrev b_Mo_fewest : ByteArray := prog_15_method_179_code
def y_Mo_fewest : MethodName := ⟨"DrawingHouseModel", "fewest", "(I)I"⟩
abbrev z_Mo_fewest : List Cond := Cond.code y_Mo_fewest b_Mo_fewest 4 (some .int) :: lw_g
def e_Mo_fewest : en_T := ([(2, 0, 0, [150]), (0, -1, 25, [])], some (0, -1, 23, []), true, 9, 0, 0, [], [], (0, [], [], [], []))
abbrev b_Mo_gather : ByteArray := prog_15_method_167_code
def y_Mo_gather : MethodName := ⟨"DrawingHouseModel", "gather", "(I)V"⟩
abbrev z_Mo_gather : List Cond := Cond.code y_Mo_gather b_Mo_gather 3 none :: lw_g
def e_Mo_gather : en_T := ([(2, 0, 0, [150]), (0, 0, 7, [])], none, false, 8, 0, 0, [], [], (169617318218724895639996560071320177519438454100059419979674195324091498496, [(13, 132)], [], [], []))
abbrev b_Mo_middle : ByteArray := prog_15_method_155_code
def y_Mo_middle : MethodName := ⟨"DrawingHouseModel", "middle", "(I)V"⟩
abbrev z_Mo_middle : List Cond := Cond.code y_Mo_middle b_Mo_middle 5 none :: lw_g
def e_Mo_middle : en_T := ([(2, 0, 0, [150]), (0, 0, 23, [])], none, false, 9, 0, 0, [], [], (803469022129495137770981046170581301261101496891396417650688, [], [], [], []))
abbrev b_Mo_need : ByteArray := prog_15_method_32_code
def y_Mo_need : MethodName := ⟨"DrawingHouseModel", "need", "(I)V"⟩
abbrev z_Mo_need : List Cond := Cond.code y_Mo_need b_Mo_need 2 none :: lw_g
def e_Mo_need : en_T := ([(2, 0, 0, [150]), (0, 59, 125, [])], none, false, 9, 0, 0, [], [], (0, [(13, 8), (13, 9), (13, 11), (13, 12), (13, 13), (13, 14), (13, 15)], [(20, [0, 0], [30, 0, 1, 1, 15, -1, 1, 11]), (20, [0], [50, 3, 0, 12, 11, 15, 2, 21, 4, 7, 1, 3, 2, 0, 12, 0, 1, 0, 3, 2, 0, 11, 4, 3, 2, 0, 15, 0, 8, 3, 7, 1, 3, 2, 0, 12, 0, 0, 0, 7, 4, 3, 2, 0, 15, 0, 1, 2, 0, 11]), (20, [2, 0], [30, 0, 1, 0, 0, -1, 1, 11]), (20, [0, 2], [50, 3, 0, 8, 12, 11, 3, 7, 0, 2, 0, 1, 2, 0, 8, 3, 7, 1, 3, 2, 0, 12, 0, 0, 0, 6, 4, 2, 1, 1, 0, 1, 2, 0, 11])], [(20, [0, 0], [30, 0, 1, 1, 15, -1, 1, 11]), (20, [0], [50, 3, 0, 12, 11, 15, 2, 21, 4, 7, 1, 3, 2, 0, 12, 0, 1, 0, 3, 2, 0, 11, 4, 3, 2, 0, 15, 0, 8, 3, 7, 1, 3, 2, 0, 12, 0, 0, 0, 7, 4, 3, 2, 0, 15, 0, 1, 2, 0, 11]), (20, [2, 0], [30, 0, 1, 0, 0, -1, 1, 11]), (20, [0, 2], [50, 2, 0, 8, 11, 3, 7, 0, 2, 0, 1, 2, 0, 8, 0, 6, 4, 2, 1, 1, 0, 1, 2, 0, 11])], [(0, 0, 2000, [])]))
abbrev b_Mo_ofNode : ByteArray := prog_15_method_229_code
def y_Mo_ofNode : MethodName := ⟨"DrawingHouseModel", "ofNode", "(I)J"⟩
abbrev z_Mo_ofNode : List Cond := Cond.code y_Mo_ofNode b_Mo_ofNode 6 (some .long) :: lw_g
def e_Mo_ofNode : en_T := ([(2, 0, 0, [150]), (0, 0, 9, [])], some (1, -2147483648, 2147483647, []), true, 7, 0, 0, [], [], (0, [], [(20, [0], [30, 0, -1, 1, 165]), (20, [0], [30, 23, 1, 1, 165])], [], []))
abbrev b_Mo_pull : ByteArray := prog_15_method_177_code
def y_Mo_pull : MethodName := ⟨"DrawingHouseModel", "pull", "(II)V"⟩
abbrev z_Mo_pull : List Cond := Cond.code y_Mo_pull b_Mo_pull 13 none :: lw_g
def e_Mo_pull : en_T := ([(2, 0, 0, [150]), (0, 0, 23, []), (0, 1, 24, [])], none, false, 9, 0, 0, [], [], (2713877091499598330239944961141122840311015265600950719674787125185463975936, [], [], [], []))
abbrev b_Mo_told : ByteArray := prog_15_method_109_code
def y_Mo_told : MethodName := ⟨"DrawingHouseModel", "told", "(III)I"⟩
abbrev z_Mo_told : List Cond := Cond.code y_Mo_told b_Mo_told 6 (some .int) :: lw_g
def e_Mo_told : en_T := ([(2, 0, 0, [150]), (0, -2147483648, 2147483647, []), (0, -2147483648, 2147483647, []), (0, -2147483648, 2147483647, [])], some (0, -2147483648, 2147483647, []), false, 8, 0, 0, [], [], (0, [(13, 5)], [], [], []))
abbrev b_Ho_drawLine : ByteArray := prog_1_method_46_code
def y_Ho_drawLine : MethodName := ⟨"DrawingHouse", "drawLine", "(LDrawingHouse$Drawing;III)V"⟩
abbrev z_Ho_drawLine : List Cond := Cond.code y_Ho_drawLine b_Ho_drawLine 13 none :: lw_g
def e_Ho_drawLine : en_T := ([(2, 0, 0, [12]), (2, 0, 0, [0]), (0, 0, 47, []), (0, 0, 24, []), (0, 1, 256, [])], none, false, 7, 0, 0, [], [], (348449143727040986586495598010130648530944, [], [], [], []))
abbrev b_Ho_same : ByteArray := prog_1_method_13_code
def y_Ho_same : MethodName := ⟨"DrawingHouse", "same", "(II)I"⟩
abbrev z_Ho_same : List Cond := Cond.code y_Ho_same b_Ho_same 7 (some .int) :: lw_g
def e_Ho_same : en_T := ([(2, 0, 0, [12]), (0, -2147483648, 2147483647, []), (0, -2147483648, 2147483647, [])], some (0, -2, 1, []), false, 10, 1, 24, [], [], (948568795032094272909893509191171341134031270523893380734559840142575624341422080, [(12, 7), (12, 8)], [], [], []))
abbrev b_Ho_writeDrawing : ByteArray := prog_1_method_43_code
def y_Ho_writeDrawing : MethodName := ⟨"DrawingHouse", "writeDrawing", "(LDrawingHouse$Graph;LDrawingHouse$Drawing;)V"⟩
abbrev z_Ho_writeDrawing : List Cond := Cond.code y_Ho_writeDrawing b_Ho_writeDrawing 5 none :: lw_g
def e_Ho_writeDrawing : en_T := ([(2, 0, 0, [12]), (2, 0, 0, [3]), (2, 0, 0, [0])], none, false, 9, 0, 0, [], [], (261336857795280739939871698507597986398208, [(12, 12)], [(20, [0, 3], [30, 0, 1, 1, 12, -1, 0, 0])], [(20, [0, 3], [30, 22248, 1, 1, 12, -1, 0, 0])], [(0, 0, 99977752, [])]))
abbrev b_Dr_labelOf : ByteArray := prog_2_method_13_code
def y_Dr_labelOf : MethodName := ⟨"DrawingHouse$Drawing", "labelOf", "(II)I"⟩
abbrev z_Dr_labelOf : List Cond := Cond.code y_Dr_labelOf b_Dr_labelOf 4 (some .int) :: lw_g
def e_Dr_labelOf : en_T := ([(2, 0, 0, [0]), (0, 0, 47, []), (0, 0, 1, [])], some (0, -2147483648, 2147483647, []), false, 10, 0, 0, [], [], (50331648, [], [], [], []))
abbrev b_Gr_mayAlter : ByteArray := prog_5_method_18_code
def y_Gr_mayAlter : MethodName := ⟨"DrawingHouse$Graph", "mayAlter", "(III)Z"⟩
abbrev z_Gr_mayAlter : List Cond := Cond.code y_Gr_mayAlter b_Gr_mayAlter 4 (some .boolean) :: lw_g
def e_Gr_mayAlter : en_T := ([(2, 0, 0, [3]), (0, -2147483648, 2147483647, []), (0, -2147483648, 2147483647, []), (0, -2147483648, 2147483647, [])], some (0, 0, 1, []), false, 9, 1, 3, [], [], (5691412770192565637459361055147028046803926286285565003667419169156946148062134272, [], [], [], []))
abbrev b_Pl_layRing : ByteArray := prog_8_method_17_code
def y_Pl_layRing : MethodName := ⟨"DrawingHouse$PlainWays", "layRing", "()V"⟩
abbrev z_Pl_layRing : List Cond := Cond.code y_Pl_layRing b_Pl_layRing 5 none :: lw_g
def e_Pl_layRing : en_T := ([(2, 0, 0, [6])], none, false, 15, 0, 0, [], [((0, 0), (2, 0, 0, [3])), ((0, 1), (2, 0, 0, [0]))], (1856910058928070412348735488, [(0, 7), (6, 8)], [], [], []))
abbrev b_Pl_layRows : ByteArray := prog_8_method_13_code
def y_Pl_layRows : MethodName := ⟨"DrawingHouse$PlainWays", "layRows", "()V"⟩
abbrev z_Pl_layRows : List Cond := Cond.code y_Pl_layRows b_Pl_layRows 7 none :: lw_g
def e_Pl_layRows : en_T := ([(2, 0, 0, [6])], none, false, 8, 0, 0, [], [((0, 1), (2, 0, 0, [0]))], (158456325028528675187092094976, [(6, 13), (6, 14)], [], [], []))
abbrev b_Pn_orderFromTo : ByteArray := prog_9_method_16_code
def y_Pn_orderFromTo : MethodName := ⟨"DrawingHouse$PlanarWays", "orderFromTo", "(LDrawingHouse$Graph;)V"⟩
abbrev z_Pn_orderFromTo : List Cond := Cond.code y_Pn_orderFromTo b_Pn_orderFromTo 8 none :: lw_g
def e_Pn_orderFromTo : en_T := ([(2, 0, 0, [7]), (2, 0, 0, [3])], none, false, 8, 0, 0, [], [], (131835662423735857755708672966656, [(7, 3)], [], [], []))
abbrev b_Mo_newNode : ByteArray := prog_15_method_46_code
def y_Mo_newNode : MethodName := ⟨"DrawingHouseModel", "newNode", "(II)I"⟩
abbrev z_Mo_newNode : List Cond := Cond.code y_Mo_newNode b_Mo_newNode 8 (some .int) :: lw_g
def e_Mo_newNode : en_T := ([(2, 0, 0, [150]), (0, 0, 3, []), (0, -2147483648, 2147483647, [])], some (0, -1, 23, []), false, 9, 0, 0, [], [], (401832590779402948707821224171697902425446933613336676270080, [(13, 5)], [(20, [0], [50, 0, 2, 3, 4, 5, 2, 0, 4, 0, 5, 3, 0, 3, 7, 0, 3, 0, 4, 7, 0]), (20, [0, 1], [50, 1, 1, 5, 3, 1, 3, 2, 0, 5, 4, 6, 6, 2, 0, 16709, 1, 1, 6, 2, 0, 539, 3, 0, 3, 1, 1])], [(20, [0], [50, 0, 2, 3, 4, 5, 2, 0, 4, 0, 5, 3, 0, 3, 7, 0, 3, 0, 4, 7, 0])], []))
abbrev b_Mo_ofEdgeWord : ByteArray := prog_15_method_230_code
def y_Mo_ofEdgeWord : MethodName := ⟨"DrawingHouseModel", "ofEdgeWord", "(I)J"⟩
abbrev z_Mo_ofEdgeWord : List Cond := Cond.code y_Mo_ofEdgeWord b_Mo_ofEdgeWord 3 (some .long) :: lw_g
def e_Mo_ofEdgeWord : en_T := ([(2, 0, 0, [150]), (0, 0, 7, [])], some (1, -1, 8589934590, []), true, 7, 0, 0, [], [], (0, [], [(20, [0], [30, 0, -1, 1, 165])], [], []))
abbrev b_Dr_countCrossings : ByteArray := prog_2_method_21_code
def y_Dr_countCrossings : MethodName := ⟨"DrawingHouse$Drawing", "countCrossings", "()J"⟩
abbrev z_Dr_countCrossings : List Cond := Cond.code y_Dr_countCrossings b_Dr_countCrossings 8 (some .long) :: lw_g
def e_Dr_countCrossings : en_T := ([(2, 0, 0, [0])], some (1, -9223372036854775808, 9223372036854775807, []), true, 10, 0, 0, [], [], (0, [], [], [], []))
abbrev b_Gr_perform_at_kx : ByteArray := prog_5_method_22_code
def y_Gr_perform_at_kx : MethodName := ⟨"DrawingHouse$Graph", "perform", "(III)I"⟩
abbrev z_Gr_perform_at_kx : List Cond := Cond.code y_Gr_perform_at_kx b_Gr_perform_at_kx 6 (some .int) :: lw_g
def e_Gr_perform_at_kx : en_T := ([(2, 0, 0, [3]), (0, -2147483648, 2147483647, []), (0, -2147483648, 2147483647, []), (0, -2147483648, 2147483647, [])], some (0, 0, 47, []), false, 9, 1, 3, [], [], (5691412770192565637459361055147028046803926286285565003667419170958104524033622016, [(3, 0), (3, 1)], [], [], []))
abbrev b_Pn_fillFaces : ByteArray := prog_9_method_5_code
def y_Pn_fillFaces : MethodName := ⟨"DrawingHouse$PlanarWays", "fillFaces", "()V"⟩
abbrev z_Pn_fillFaces : List Cond := Cond.code y_Pn_fillFaces b_Pn_fillFaces 3 none :: lw_g
def e_Pn_fillFaces : en_T := ([(2, 0, 0, [7])], none, false, 10, 0, 0, [], [], (645327814182479907737265315110169335763566592, [(5, 6), (5, 13)], [], [], []))
abbrev b_Sy_isWordAt_at_s5004 : ByteArray := prog_13_method_7_code
def y_Sy_isWordAt_at_s5004 : MethodName := ⟨"DrawingHouse$Styler", "isWordAt", "(Ljava/lang/String;II)Z"⟩
abbrev z_Sy_isWordAt_at_s5004 : List Cond := Cond.code y_Sy_isWordAt_at_s5004 b_Sy_isWordAt_at_s5004 5 (some .boolean) :: lw_g
def e_Sy_isWordAt_at_s5004 : en_T := ([(2, 0, 0, [11]), (2, 0, 0, [5004]), (0, 0, 47, []), (0, 0, 38, [])], some (0, 0, 1, []), false, 6, 0, 0, [], [((0, 3), (2, 0, 0, [109]))], (0, [], [], [], []))
abbrev b_Sy_isWordAt_at_s5006 : ByteArray := prog_13_method_7_code
def y_Sy_isWordAt_at_s5006 : MethodName := ⟨"DrawingHouse$Styler", "isWordAt", "(Ljava/lang/String;II)Z"⟩
abbrev z_Sy_isWordAt_at_s5006 : List Cond := Cond.code y_Sy_isWordAt_at_s5006 b_Sy_isWordAt_at_s5006 5 (some .boolean) :: lw_g
def e_Sy_isWordAt_at_s5006 : en_T := ([(2, 0, 0, [11]), (2, 0, 0, [5006]), (0, 0, 15, []), (0, 0, 9, [])], some (0, 0, 1, []), false, 6, 0, 0, [], [((0, 3), (2, 0, 0, [109]))], (0, [], [], [], []))
abbrev b_Sy_isWordAt_at_s5007 : ByteArray := prog_13_method_7_code
def y_Sy_isWordAt_at_s5007 : MethodName := ⟨"DrawingHouse$Styler", "isWordAt", "(Ljava/lang/String;II)Z"⟩
abbrev z_Sy_isWordAt_at_s5007 : List Cond := Cond.code y_Sy_isWordAt_at_s5007 b_Sy_isWordAt_at_s5007 5 (some .boolean) :: lw_g
def e_Sy_isWordAt_at_s5007 : en_T := ([(2, 0, 0, [11]), (2, 0, 0, [5007]), (0, 0, 47, []), (0, 0, 43, [])], some (0, 0, 1, []), false, 6, 0, 0, [], [((0, 3), (2, 0, 0, [109]))], (0, [], [], [], []))
abbrev b_Sy_isWordAt_at_s5008 : ByteArray := prog_13_method_7_code
def y_Sy_isWordAt_at_s5008 : MethodName := ⟨"DrawingHouse$Styler", "isWordAt", "(Ljava/lang/String;II)Z"⟩
abbrev z_Sy_isWordAt_at_s5008 : List Cond := Cond.code y_Sy_isWordAt_at_s5008 b_Sy_isWordAt_at_s5008 5 (some .boolean) :: lw_g
def e_Sy_isWordAt_at_s5008 : en_T := ([(2, 0, 0, [11]), (2, 0, 0, [5008]), (0, 0, 3, []), (0, 0, 2, [])], some (0, 0, 1, []), false, 6, 0, 0, [], [((0, 3), (2, 0, 0, [109]))], (0, [], [], [], []))
abbrev b_Sy_isWordAt_at_s5009 : ByteArray := prog_13_method_7_code
def y_Sy_isWordAt_at_s5009 : MethodName := ⟨"DrawingHouse$Styler", "isWordAt", "(Ljava/lang/String;II)Z"⟩
abbrev z_Sy_isWordAt_at_s5009 : List Cond := Cond.code y_Sy_isWordAt_at_s5009 b_Sy_isWordAt_at_s5009 5 (some .boolean) :: lw_g
def e_Sy_isWordAt_at_s5009 : en_T := ([(2, 0, 0, [11]), (2, 0, 0, [5009]), (0, 0, 4, []), (0, 0, 3, [])], some (0, 0, 1, []), false, 6, 0, 0, [], [((0, 3), (2, 0, 0, [109]))], (0, [], [], [], []))
abbrev b_Sy_isWordAt_at_s5010 : ByteArray := prog_13_method_7_code
def y_Sy_isWordAt_at_s5010 : MethodName := ⟨"DrawingHouse$Styler", "isWordAt", "(Ljava/lang/String;II)Z"⟩
abbrev z_Sy_isWordAt_at_s5010 : List Cond := Cond.code y_Sy_isWordAt_at_s5010 b_Sy_isWordAt_at_s5010 5 (some .boolean) :: lw_g
def e_Sy_isWordAt_at_s5010 : en_T := ([(2, 0, 0, [11]), (2, 0, 0, [5010]), (0, 0, 4, []), (0, 0, 3, [])], some (0, 0, 1, []), false, 6, 0, 0, [], [((0, 3), (2, 0, 0, [109]))], (0, [], [], [], []))
abbrev b_Sy_isWordAt_at_s5011 : ByteArray := prog_13_method_7_code
def y_Sy_isWordAt_at_s5011 : MethodName := ⟨"DrawingHouse$Styler", "isWordAt", "(Ljava/lang/String;II)Z"⟩
abbrev z_Sy_isWordAt_at_s5011 : List Cond := Cond.code y_Sy_isWordAt_at_s5011 b_Sy_isWordAt_at_s5011 5 (some .boolean) :: lw_g
def e_Sy_isWordAt_at_s5011 : en_T := ([(2, 0, 0, [11]), (2, 0, 0, [5011]), (0, 0, 3, []), (0, 0, 2, [])], some (0, 0, 1, []), false, 6, 0, 0, [], [((0, 3), (2, 0, 0, [109]))], (0, [], [], [], []))
abbrev b_Sy_isWordAt_at_s5012 : ByteArray := prog_13_method_7_code
def y_Sy_isWordAt_at_s5012 : MethodName := ⟨"DrawingHouse$Styler", "isWordAt", "(Ljava/lang/String;II)Z"⟩
abbrev z_Sy_isWordAt_at_s5012 : List Cond := Cond.code y_Sy_isWordAt_at_s5012 b_Sy_isWordAt_at_s5012 5 (some .boolean) :: lw_g
def e_Sy_isWordAt_at_s5012 : en_T := ([(2, 0, 0, [11]), (2, 0, 0, [5012]), (0, 0, 23, []), (0, 0, 16, [])], some (0, 0, 1, []), false, 6, 0, 0, [], [((0, 3), (2, 0, 0, [109]))], (0, [], [], [], []))
abbrev b_Mo_isBarred : ByteArray := prog_15_method_188_code
def y_Mo_isBarred : MethodName := ⟨"DrawingHouseModel", "isBarred", "(III)Z"⟩
abbrev z_Mo_isBarred : List Cond := Cond.code y_Mo_isBarred b_Mo_isBarred 5 (some .boolean) :: lw_g
def e_Mo_isBarred : en_T := ([(2, 0, 0, [150]), (0, 0, 47, []), (0, -2147483648, 2147483647, []), (0, -2147483648, 2147483647, [])], some (0, 0, 1, []), true, 8, 0, 0, [], [], (0, [], [], [], []))
abbrev b_Mo_matrix : ByteArray := prog_15_method_178_code
def y_Mo_matrix : MethodName := ⟨"DrawingHouseModel", "matrix", "(I)I"⟩
abbrev z_Mo_matrix : List Cond := Cond.code y_Mo_matrix b_Mo_matrix 7 (some .int) :: lw_g
def e_Mo_matrix : en_T := ([(2, 0, 0, [150]), (0, 0, 3, [])], some (0, 0, 0, []), false, 10, 0, 0, [], [], (14134776728854074657948883119880029596500343579104672738049269395980550144, [], [], [], []))
abbrev b_Mo_ring : ByteArray := prog_15_method_172_code
def y_Mo_ring : MethodName := ⟨"DrawingHouseModel", "ring", "(I)I"⟩
abbrev z_Mo_ring : List Cond := Cond.code y_Mo_ring b_Mo_ring 8 (some .int) :: lw_g
def e_Mo_ring : en_T := ([(2, 0, 0, [150]), (0, 0, 3, [])], some (0, 0, 0, []), false, 9, 0, 0, [], [], (14134777150103241332177624065545591007570400039945723475113635789494288384, [], [], [], []))
abbrev b_Ho_back : ByteArray := prog_1_method_11_code
def y_Ho_back : MethodName := ⟨"DrawingHouse", "back", "(II)Z"⟩
abbrev z_Ho_back : List Cond := Cond.code y_Ho_back b_Ho_back 3 (some .boolean) :: lw_g
def e_Ho_back : en_T := ([(2, 0, 0, [12]), (0, -2147483648, 2147483647, []), (0, -2147483648, 2147483647, [])], some (0, 0, 1, []), false, 10, 0, 0, [], [], (1801158375979876352, [(0, 1), (2, 0), (3, 0), (3, 1), (3, 17), (3, 18), (5, 0), (5, 1), (5, 2), (5, 3)], [], [], []))
abbrev b_Mo_crossAtShared : ByteArray := prog_15_method_202_code
def y_Mo_crossAtShared : MethodName := ⟨"DrawingHouseModel", "crossAtShared", "(IIJJJJJJJJ)Z"⟩
abbrev z_Mo_crossAtShared : List Cond := Cond.code y_Mo_crossAtShared b_Mo_crossAtShared 20 (some .boolean) :: lw_g
def e_Mo_crossAtShared : en_T := ([(2, 0, 0, [150]), (0, 0, 47, []), (0, 0, 47, []), (1, -2147483648, 2147483647, []), (1, -2147483648, 2147483647, []), (1, -2147483648, 2147483647, []), (1, -2147483648, 2147483647, []), (1, -2147483648, 2147483647, []), (1, -2147483648, 2147483647, []), (1, -2147483648, 2147483647, []), (1, -2147483648, 2147483647, [])], some (0, 0, 1, []), true, 8, 0, 0, [], [], (0, [], [], [], []))
abbrev b_Mo_cut : ByteArray := prog_15_method_145_code
def y_Mo_cut : MethodName := ⟨"DrawingHouseModel", "cut", "()Z"⟩
abbrev z_Mo_cut : List Cond := Cond.code y_Mo_cut b_Mo_cut 9 (some .boolean) :: lw_g
def e_Mo_cut : en_T := ([(2, 0, 0, [150])], some (0, 0, 1, []), false, 9, 0, 0, [], [], (39846333872137342573011880761262093326842715861856288768, [(13, 32), (13, 53)], [], [], []))
abbrev b_Mo_far : ByteArray := prog_15_method_105_code
def y_Mo_far : MethodName := ⟨"DrawingHouseModel", "far", "(III)I"⟩
abbrev z_Mo_far : List Cond := Cond.code y_Mo_far b_Mo_far 4 (some .int) :: lw_g
def e_Mo_far : en_T := ([(2, 0, 0, [150]), (0, -2147483648, 2147483647, []), (0, -2147483648, 2147483647, []), (0, -2147483648, 2147483647, [])], some (0, -1, 1000000, []), false, 8, 0, 0, [], [], (730750818665451459101842416358141509827966271488, [(13, 5)], [], [], []))
abbrev b_Mo_group : ByteArray := prog_15_method_103_code
def y_Mo_group : MethodName := ⟨"DrawingHouseModel", "group", "(III)I"⟩
abbrev z_Mo_group : List Cond := Cond.code y_Mo_group b_Mo_group 4 (some .int) :: lw_g
def e_Mo_group : en_T := ([(2, 0, 0, [150]), (0, -2147483648, 2147483647, []), (0, -2147483648, 2147483647, []), (0, -2147483648, 2147483647, [])], some (0, -2147483648, 2147483647, []), false, 8, 0, 0, [], [], (0, [(13, 5)], [], [], []))
abbrev b_Mo_leastTriangle : ByteArray := prog_15_method_211_code
def y_Mo_leastTriangle : MethodName := ⟨"DrawingHouseModel", "leastTriangle", "()J"⟩
abbrev z_Mo_leastTriangle : List Cond := Cond.code y_Mo_leastTriangle b_Mo_leastTriangle 8 (some .long) :: lw_g
def e_Mo_leastTriangle : en_T := ([(2, 0, 0, [150])], some (1, -9223372036854775808, 9223372036854775807, []), true, 9, 0, 0, [], [], (0, [], [], [], []))
abbrev b_Re_isWord_at_s5000 : ByteArray := prog_10_method_10_code
def y_Re_isWord_at_s5000 : MethodName := ⟨"DrawingHouse$Reader", "isWord", "(Ljava/lang/String;)Z"⟩
abbrev z_Re_isWord_at_s5000 : List Cond := Cond.code y_Re_isWord_at_s5000 b_Re_isWord_at_s5000 3 (some .boolean) :: lw_g
def e_Re_isWord_at_s5000 : en_T := ([(2, 0, 0, [8]), (2, 0, 0, [5000])], some (0, 0, 1, []), false, 6, 0, 0, [], [], (0, [], [], [], []))
abbrev b_Re_isWord_at_s5001 : ByteArray := prog_10_method_10_code
def y_Re_isWord_at_s5001 : MethodName := ⟨"DrawingHouse$Reader", "isWord", "(Ljava/lang/String;)Z"⟩
abbrev z_Re_isWord_at_s5001 : List Cond := Cond.code y_Re_isWord_at_s5001 b_Re_isWord_at_s5001 3 (some .boolean) :: lw_g
def e_Re_isWord_at_s5001 : en_T := ([(2, 0, 0, [8]), (2, 0, 0, [5001])], some (0, 0, 1, []), false, 6, 0, 0, [], [], (0, [], [], [], []))
abbrev b_Re_isWord_at_s5002 : ByteArray := prog_10_method_10_code
def y_Re_isWord_at_s5002 : MethodName := ⟨"DrawingHouse$Reader", "isWord", "(Ljava/lang/String;)Z"⟩
abbrev z_Re_isWord_at_s5002 : List Cond := Cond.code y_Re_isWord_at_s5002 b_Re_isWord_at_s5002 3 (some .boolean) :: lw_g
def e_Re_isWord_at_s5002 : en_T := ([(2, 0, 0, [8]), (2, 0, 0, [5002])], some (0, 0, 1, []), false, 6, 0, 0, [], [], (0, [], [], [], []))
abbrev b_Re_isWord_at_s5003 : ByteArray := prog_10_method_10_code
def y_Re_isWord_at_s5003 : MethodName := ⟨"DrawingHouse$Reader", "isWord", "(Ljava/lang/String;)Z"⟩
abbrev z_Re_isWord_at_s5003 : List Cond := Cond.code y_Re_isWord_at_s5003 b_Re_isWord_at_s5003 3 (some .boolean) :: lw_g
def e_Re_isWord_at_s5003 : en_T := ([(2, 0, 0, [8]), (2, 0, 0, [5003])], some (0, 0, 1, []), false, 6, 0, 0, [], [], (0, [], [], [], []))
abbrev b_Ho_label : ByteArray := prog_1_method_22_code
def y_Ho_label : MethodName := ⟨"DrawingHouse", "label", "(III)I"⟩
abbrev z_Ho_label : List Cond := Cond.code y_Ho_label b_Ho_label 4 (some .int) :: lw_g
def e_Ho_label : en_T := ([(2, 0, 0, [12]), (0, -2147483648, 2147483647, []), (0, -2147483648, 2147483647, []), (0, -2147483648, 2147483647, [])], some (0, -2147483648, 2147483647, []), false, 11, 0, 0, [], [], (50331648, [], [], [], []))
abbrev b_Ho_writeWord_at_s5013 : ByteArray := prog_1_method_38_code
def y_Ho_writeWord_at_s5013 : MethodName := ⟨"DrawingHouse", "writeWord", "(Ljava/lang/String;)V"⟩
abbrev z_Ho_writeWord_at_s5013 : List Cond := Cond.code y_Ho_writeWord_at_s5013 b_Ho_writeWord_at_s5013 3 none :: lw_g
def e_Ho_writeWord_at_s5013 : en_T := ([(2, 0, 0, [12]), (2, 0, 0, [5013])], none, false, 7, 0, 0, [], [], (261336857795280739939871698507597986398208, [(12, 12)], [(20, [0, 2], [30, 0, 1, 1, 12, -1, 0, 0])], [(20, [0, 2], [30, 5, 1, 1, 12, -1, 0, 0])], [(0, 0, 99999995, [])]))
abbrev b_Ho_writeWord_at_s5014 : ByteArray := prog_1_method_38_code
def y_Ho_writeWord_at_s5014 : MethodName := ⟨"DrawingHouse", "writeWord", "(Ljava/lang/String;)V"⟩
abbrev z_Ho_writeWord_at_s5014 : List Cond := Cond.code y_Ho_writeWord_at_s5014 b_Ho_writeWord_at_s5014 3 none :: lw_g
def e_Ho_writeWord_at_s5014 : en_T := ([(2, 0, 0, [12]), (2, 0, 0, [5014])], none, false, 7, 0, 0, [], [], (261336857795280739939871698507597986398208, [(12, 12)], [(20, [0, 2], [30, 0, 1, 1, 12, -1, 0, 0])], [(20, [0, 2], [30, 7, 1, 1, 12, -1, 0, 0])], [(0, 0, 99999993, [])]))
abbrev b_Ho_writeWord_at_s5015 : ByteArray := prog_1_method_38_code
def y_Ho_writeWord_at_s5015 : MethodName := ⟨"DrawingHouse", "writeWord", "(Ljava/lang/String;)V"⟩
abbrev z_Ho_writeWord_at_s5015 : List Cond := Cond.code y_Ho_writeWord_at_s5015 b_Ho_writeWord_at_s5015 3 none :: lw_g
def e_Ho_writeWord_at_s5015 : en_T := ([(2, 0, 0, [12]), (2, 0, 0, [5015])], none, false, 7, 0, 0, [], [], (261336857795280739939871698507597986398208, [(12, 12)], [(20, [0, 2], [30, 0, 1, 1, 12, -1, 0, 0])], [(20, [0, 2], [30, 2, 1, 1, 12, -1, 0, 0])], [(0, 0, 99999998, [])]))
abbrev b_Ho_writeWord_at_s5016 : ByteArray := prog_1_method_38_code
def y_Ho_writeWord_at_s5016 : MethodName := ⟨"DrawingHouse", "writeWord", "(Ljava/lang/String;)V"⟩
abbrev z_Ho_writeWord_at_s5016 : List Cond := Cond.code y_Ho_writeWord_at_s5016 b_Ho_writeWord_at_s5016 3 none :: lw_g
def e_Ho_writeWord_at_s5016 : en_T := ([(2, 0, 0, [12]), (2, 0, 0, [5016])], none, false, 7, 0, 0, [], [], (261336857795280739939871698507597986398208, [(12, 12)], [(20, [0, 2], [30, 0, 1, 1, 12, -1, 0, 0])], [(20, [0, 2], [30, 6, 1, 1, 12, -1, 0, 0])], [(0, 0, 99999994, [])]))
abbrev b_Ho_writeWord_at_s5017 : ByteArray := prog_1_method_38_code
def y_Ho_writeWord_at_s5017 : MethodName := ⟨"DrawingHouse", "writeWord", "(Ljava/lang/String;)V"⟩
abbrev z_Ho_writeWord_at_s5017 : List Cond := Cond.code y_Ho_writeWord_at_s5017 b_Ho_writeWord_at_s5017 3 none :: lw_g
def e_Ho_writeWord_at_s5017 : en_T := ([(2, 0, 0, [12]), (2, 0, 0, [5017])], none, false, 7, 0, 0, [], [], (261336857795280739939871698507597986398208, [(12, 12)], [(20, [0, 2], [30, 0, 1, 1, 12, -1, 0, 0])], [(20, [0, 2], [30, 3, 1, 1, 12, -1, 0, 0])], [(0, 0, 99999997, [])]))
abbrev b_Ho_writeWord_at_s5018 : ByteArray := prog_1_method_38_code
def y_Ho_writeWord_at_s5018 : MethodName := ⟨"DrawingHouse", "writeWord", "(Ljava/lang/String;)V"⟩
abbrev z_Ho_writeWord_at_s5018 : List Cond := Cond.code y_Ho_writeWord_at_s5018 b_Ho_writeWord_at_s5018 3 none :: lw_g
def e_Ho_writeWord_at_s5018 : en_T := ([(2, 0, 0, [12]), (2, 0, 0, [5018])], none, false, 7, 0, 0, [], [], (261336857795280739939871698507597986398208, [(12, 12)], [(20, [0, 2], [30, 0, 1, 1, 12, -1, 0, 0])], [(20, [0, 2], [30, 2, 1, 1, 12, -1, 0, 0])], [(0, 0, 99999998, [])]))
abbrev b_Ho_writeWord_at_s5019 : ByteArray := prog_1_method_38_code
def y_Ho_writeWord_at_s5019 : MethodName := ⟨"DrawingHouse", "writeWord", "(Ljava/lang/String;)V"⟩
abbrev z_Ho_writeWord_at_s5019 : List Cond := Cond.code y_Ho_writeWord_at_s5019 b_Ho_writeWord_at_s5019 3 none :: lw_g
def e_Ho_writeWord_at_s5019 : en_T := ([(2, 0, 0, [12]), (2, 0, 0, [5019])], none, false, 7, 0, 0, [], [], (261336857795280739939871698507597986398208, [(12, 12)], [(20, [0, 2], [30, 0, 1, 1, 12, -1, 0, 0])], [(20, [0, 2], [30, 3, 1, 1, 12, -1, 0, 0])], [(0, 0, 99999997, [])]))
abbrev b_Ho_writeWord_at_s5020 : ByteArray := prog_1_method_38_code
def y_Ho_writeWord_at_s5020 : MethodName := ⟨"DrawingHouse", "writeWord", "(Ljava/lang/String;)V"⟩
abbrev z_Ho_writeWord_at_s5020 : List Cond := Cond.code y_Ho_writeWord_at_s5020 b_Ho_writeWord_at_s5020 3 none :: lw_g
def e_Ho_writeWord_at_s5020 : en_T := ([(2, 0, 0, [12]), (2, 0, 0, [5020])], none, false, 7, 0, 0, [], [], (261336857795280739939871698507597986398208, [(12, 12)], [(20, [0, 2], [30, 0, 1, 1, 12, -1, 0, 0])], [(20, [0, 2], [30, 3, 1, 1, 12, -1, 0, 0])], [(0, 0, 99999997, [])]))
abbrev b_Ho_writeWord_at_s5021 : ByteArray := prog_1_method_38_code
def y_Ho_writeWord_at_s5021 : MethodName := ⟨"DrawingHouse", "writeWord", "(Ljava/lang/String;)V"⟩
abbrev z_Ho_writeWord_at_s5021 : List Cond := Cond.code y_Ho_writeWord_at_s5021 b_Ho_writeWord_at_s5021 3 none :: lw_g
def e_Ho_writeWord_at_s5021 : en_T := ([(2, 0, 0, [12]), (2, 0, 0, [5021])], none, false, 7, 0, 0, [], [], (261336857795280739939871698507597986398208, [(12, 12)], [(20, [0, 2], [30, 0, 1, 1, 12, -1, 0, 0])], [(20, [0, 2], [30, 9, 1, 1, 12, -1, 0, 0])], [(0, 0, 99999991, [])]))
abbrev b_Gr_alter_at_kx : ByteArray := prog_5_method_21_code
def y_Gr_alter_at_kx : MethodName := ⟨"DrawingHouse$Graph", "alter", "(III)I"⟩
abbrev z_Gr_alter_at_kx : List Cond := Cond.code y_Gr_alter_at_kx b_Gr_alter_at_kx 5 (some .int) :: lw_g
def e_Gr_alter_at_kx : en_T := ([(2, 0, 0, [3]), (0, -2147483648, 2147483647, []), (0, -2147483648, 2147483647, []), (0, -2147483648, 2147483647, [])], some (0, 0, 47, []), false, 10, 2, 3785, [], [], (5691412770192565637459361055147028046803926286285565003667419173263947533247315968, [(3, 0), (3, 1), (3, 16), (3, 17), (3, 18)], [], [], []))
abbrev b_Re_isName : ByteArray := prog_10_method_11_code
def y_Re_isName : MethodName := ⟨"DrawingHouse$Reader", "isName", "()Z"⟩
abbrev z_Re_isName : List Cond := Cond.code y_Re_isName b_Re_isName 1 (some .boolean) :: lw_g
def e_Re_isName : en_T := ([(2, 0, 0, [8])], some (0, 0, 1, []), false, 7, 0, 0, [], [], (0, [], [(20, [0, 0, 0, 0], [31, 1, -3, -1, 1, 7, 4008, 1, 1, 6, -1, 1, 8, 2000, 1, 7])], [(20, [0, 0, 1], [30, 2008, 1, 1, 6, -1, 1, 8, 2000, 0, 0])], []))
abbrev b_Sy_advance : ByteArray := prog_13_method_5_code
def y_Sy_advance : MethodName := ⟨"DrawingHouse$Styler", "advance", "()V"⟩
abbrev z_Sy_advance : List Cond := Cond.code y_Sy_advance b_Sy_advance 2 none :: lw_g
def e_Sy_advance : en_T := ([(2, 0, 0, [11])], none, false, 7, 0, 0, [], [((0, 3), (2, 0, 0, [109]))], (0, [(11, 5), (11, 6), (11, 7), (11, 8)], [], [], []))
abbrev b_Sy_wordIn_at_s5004 : ByteArray := prog_13_method_6_code
def y_Sy_wordIn_at_s5004 : MethodName := ⟨"DrawingHouse$Styler", "wordIn", "(Ljava/lang/String;)I"⟩
abbrev z_Sy_wordIn_at_s5004 : List Cond := Cond.code y_Sy_wordIn_at_s5004 b_Sy_wordIn_at_s5004 5 (some .int) :: lw_g
def e_Sy_wordIn_at_s5004 : en_T := ([(2, 0, 0, [11]), (2, 0, 0, [5004])], some (0, -2147483648, 2147483647, []), false, 7, 0, 0, [], [((0, 3), (2, 0, 0, [109]))], (0, [], [], [], []))
abbrev b_Sy_wordIn_at_s5006 : ByteArray := prog_13_method_6_code
def y_Sy_wordIn_at_s5006 : MethodName := ⟨"DrawingHouse$Styler", "wordIn", "(Ljava/lang/String;)I"⟩
abbrev z_Sy_wordIn_at_s5006 : List Cond := Cond.code y_Sy_wordIn_at_s5006 b_Sy_wordIn_at_s5006 5 (some .int) :: lw_g
def e_Sy_wordIn_at_s5006 : en_T := ([(2, 0, 0, [11]), (2, 0, 0, [5006])], some (0, -2147483648, 2147483647, []), false, 7, 0, 0, [], [((0, 3), (2, 0, 0, [109]))], (0, [], [], [], []))
abbrev b_Sy_wordIn_at_s5007 : ByteArray := prog_13_method_6_code
def y_Sy_wordIn_at_s5007 : MethodName := ⟨"DrawingHouse$Styler", "wordIn", "(Ljava/lang/String;)I"⟩
abbrev z_Sy_wordIn_at_s5007 : List Cond := Cond.code y_Sy_wordIn_at_s5007 b_Sy_wordIn_at_s5007 5 (some .int) :: lw_g
def e_Sy_wordIn_at_s5007 : en_T := ([(2, 0, 0, [11]), (2, 0, 0, [5007])], some (0, -2147483648, 2147483647, []), false, 7, 0, 0, [], [((0, 3), (2, 0, 0, [109]))], (0, [], [], [], []))
abbrev b_Sy_wordIn_at_s5008 : ByteArray := prog_13_method_6_code
def y_Sy_wordIn_at_s5008 : MethodName := ⟨"DrawingHouse$Styler", "wordIn", "(Ljava/lang/String;)I"⟩
abbrev z_Sy_wordIn_at_s5008 : List Cond := Cond.code y_Sy_wordIn_at_s5008 b_Sy_wordIn_at_s5008 5 (some .int) :: lw_g
def e_Sy_wordIn_at_s5008 : en_T := ([(2, 0, 0, [11]), (2, 0, 0, [5008])], some (0, -2147483648, 2147483647, []), false, 7, 0, 0, [], [((0, 3), (2, 0, 0, [109]))], (0, [], [], [], []))
abbrev b_Sy_wordIn_at_s5009 : ByteArray := prog_13_method_6_code
def y_Sy_wordIn_at_s5009 : MethodName := ⟨"DrawingHouse$Styler", "wordIn", "(Ljava/lang/String;)I"⟩
abbrev z_Sy_wordIn_at_s5009 : List Cond := Cond.code y_Sy_wordIn_at_s5009 b_Sy_wordIn_at_s5009 5 (some .int) :: lw_g
def e_Sy_wordIn_at_s5009 : en_T := ([(2, 0, 0, [11]), (2, 0, 0, [5009])], some (0, -2147483648, 2147483647, []), false, 7, 0, 0, [], [((0, 3), (2, 0, 0, [109]))], (0, [], [], [], []))
abbrev b_Sy_wordIn_at_s5010 : ByteArray := prog_13_method_6_code
def y_Sy_wordIn_at_s5010 : MethodName := ⟨"DrawingHouse$Styler", "wordIn", "(Ljava/lang/String;)I"⟩
abbrev z_Sy_wordIn_at_s5010 : List Cond := Cond.code y_Sy_wordIn_at_s5010 b_Sy_wordIn_at_s5010 5 (some .int) :: lw_g
def e_Sy_wordIn_at_s5010 : en_T := ([(2, 0, 0, [11]), (2, 0, 0, [5010])], some (0, -2147483648, 2147483647, []), false, 7, 0, 0, [], [((0, 3), (2, 0, 0, [109]))], (0, [], [], [], []))
abbrev b_Sy_wordIn_at_s5011 : ByteArray := prog_13_method_6_code
def y_Sy_wordIn_at_s5011 : MethodName := ⟨"DrawingHouse$Styler", "wordIn", "(Ljava/lang/String;)I"⟩
abbrev z_Sy_wordIn_at_s5011 : List Cond := Cond.code y_Sy_wordIn_at_s5011 b_Sy_wordIn_at_s5011 5 (some .int) :: lw_g
def e_Sy_wordIn_at_s5011 : en_T := ([(2, 0, 0, [11]), (2, 0, 0, [5011])], some (0, -2147483648, 2147483647, []), false, 7, 0, 0, [], [((0, 3), (2, 0, 0, [109]))], (0, [], [], [], []))
abbrev b_Sy_wordIn_at_s5012 : ByteArray := prog_13_method_6_code
def y_Sy_wordIn_at_s5012 : MethodName := ⟨"DrawingHouse$Styler", "wordIn", "(Ljava/lang/String;)I"⟩
abbrev z_Sy_wordIn_at_s5012 : List Cond := Cond.code y_Sy_wordIn_at_s5012 b_Sy_wordIn_at_s5012 5 (some .int) :: lw_g
def e_Sy_wordIn_at_s5012 : en_T := ([(2, 0, 0, [11]), (2, 0, 0, [5012])], some (0, -2147483648, 2147483647, []), false, 7, 0, 0, [], [((0, 3), (2, 0, 0, [109]))], (0, [], [], [], []))
abbrev b_Mo_bounds : ByteArray := prog_15_method_208_code
def y_Mo_bounds : MethodName := ⟨"DrawingHouseModel", "bounds", "()V"⟩
abbrev z_Mo_bounds : List Cond := Cond.code y_Mo_bounds b_Mo_bounds 3 none :: lw_g
def e_Mo_bounds : en_T := ([(2, 0, 0, [150])], none, false, 8, 0, 0, [], [], (0, [(13, 153), (13, 154), (13, 155), (13, 156)], [], [], []))
abbrev b_Mo_finds : ByteArray := prog_15_method_197_code
def y_Mo_finds : MethodName := ⟨"DrawingHouseModel", "finds", "(I)Z"⟩
abbrev z_Mo_finds : List Cond := Cond.code y_Mo_finds b_Mo_finds 7 (some .boolean) :: lw_g
def e_Mo_finds : en_T := ([(2, 0, 0, [150]), (0, 0, 47, [])], some (0, 0, 1, []), false, 8, 0, 0, [], [], (694752535423897172541425910052127447119619907993843384236745504047478777839616, [], [(20, [0], [30, 47, 1, 1, 150])], [], []))
abbrev b_Mo_forces : ByteArray := prog_15_method_175_code
def y_Mo_forces : MethodName := ⟨"DrawingHouseModel", "forces", "(I)I"⟩
abbrev z_Mo_forces : List Cond := Cond.code y_Mo_forces b_Mo_forces 7 (some .int) :: lw_g
def e_Mo_forces : en_T := ([(2, 0, 0, [150]), (0, -2147483648, 2147483647, [])], some (0, -2, 0, []), false, 10, 0, 0, [], [], (3392346364374500323206997589911816863331907593745092182897974580671082921984, [], [], [], []))
abbrev b_Mo_isWord_at_s5000 : ByteArray := prog_15_method_29_code
def y_Mo_isWord_at_s5000 : MethodName := ⟨"DrawingHouseModel", "isWord", "(Ljava/lang/String;)Z"⟩
abbrev z_Mo_isWord_at_s5000 : List Cond := Cond.code y_Mo_isWord_at_s5000 b_Mo_isWord_at_s5000 4 (some .boolean) :: lw_g
def e_Mo_isWord_at_s5000 : en_T := ([(2, 0, 0, [150]), (2, 0, 0, [5000])], some (0, 0, 1, []), false, 7, 0, 0, [], [], (0, [], [], [(20, [2, 0], [50, 1, 0, 1012, 4, 6, 1, 2, 1, 0, 0, 1, 1, 3, 2, 1, 12, 0, 1])], []))
abbrev b_Mo_isWord_at_s5001 : ByteArray := prog_15_method_29_code
def y_Mo_isWord_at_s5001 : MethodName := ⟨"DrawingHouseModel", "isWord", "(Ljava/lang/String;)Z"⟩
abbrev z_Mo_isWord_at_s5001 : List Cond := Cond.code y_Mo_isWord_at_s5001 b_Mo_isWord_at_s5001 4 (some .boolean) :: lw_g
def e_Mo_isWord_at_s5001 : en_T := ([(2, 0, 0, [150]), (2, 0, 0, [5001])], some (0, 0, 1, []), false, 7, 0, 0, [], [], (0, [], [], [(20, [2, 0], [50, 1, 0, 1012, 4, 6, 1, 2, 1, 0, 0, 1, 1, 3, 2, 1, 12, 0, 1])], []))
abbrev b_Mo_isWord_at_s5002 : ByteArray := prog_15_method_29_code
def y_Mo_isWord_at_s5002 : MethodName := ⟨"DrawingHouseModel", "isWord", "(Ljava/lang/String;)Z"⟩
abbrev z_Mo_isWord_at_s5002 : List Cond := Cond.code y_Mo_isWord_at_s5002 b_Mo_isWord_at_s5002 4 (some .boolean) :: lw_g
def e_Mo_isWord_at_s5002 : en_T := ([(2, 0, 0, [150]), (2, 0, 0, [5002])], some (0, 0, 1, []), false, 7, 0, 0, [], [], (0, [], [], [(20, [2, 0], [50, 1, 0, 1012, 4, 6, 1, 2, 1, 0, 0, 1, 1, 3, 2, 1, 12, 0, 1])], []))
abbrev b_Mo_isWord_at_s5003 : ByteArray := prog_15_method_29_code
def y_Mo_isWord_at_s5003 : MethodName := ⟨"DrawingHouseModel", "isWord", "(Ljava/lang/String;)Z"⟩
abbrev z_Mo_isWord_at_s5003 : List Cond := Cond.code y_Mo_isWord_at_s5003 b_Mo_isWord_at_s5003 4 (some .boolean) :: lw_g
def e_Mo_isWord_at_s5003 : en_T := ([(2, 0, 0, [150]), (2, 0, 0, [5003])], some (0, 0, 1, []), false, 7, 0, 0, [], [], (0, [], [], [(20, [2, 0], [50, 1, 0, 1012, 4, 6, 1, 2, 1, 0, 0, 1, 1, 3, 2, 1, 12, 0, 1])], []))
abbrev b_Mo_word_at_s5000 : ByteArray := prog_15_method_213_code
def y_Mo_word_at_s5000 : MethodName := ⟨"DrawingHouseModel", "word", "(Ljava/lang/String;)Z"⟩
abbrev z_Mo_word_at_s5000 : List Cond := Cond.code y_Mo_word_at_s5000 b_Mo_word_at_s5000 4 (some .boolean) :: lw_g
def e_Mo_word_at_s5000 : en_T := ([(2, 0, 0, [150]), (2, 0, 0, [5000])], some (0, 0, 1, []), false, 7, 0, 0, [], [], (0, [], [], [(20, [2, 0], [50, 1, 1, 1158, 1160, 4, 6, 1, 2, 1, 0, 0, 1, 1, 6, 3, 1, 160, 2, 1, 158, 0, 1])], []))
abbrev b_Mo_word_at_s5001 : ByteArray := prog_15_method_213_code
def y_Mo_word_at_s5001 : MethodName := ⟨"DrawingHouseModel", "word", "(Ljava/lang/String;)Z"⟩
abbrev z_Mo_word_at_s5001 : List Cond := Cond.code y_Mo_word_at_s5001 b_Mo_word_at_s5001 4 (some .boolean) :: lw_g
def e_Mo_word_at_s5001 : en_T := ([(2, 0, 0, [150]), (2, 0, 0, [5001])], some (0, 0, 1, []), false, 7, 0, 0, [], [], (0, [], [], [(20, [2, 0], [50, 1, 1, 1158, 1160, 4, 6, 1, 2, 1, 0, 0, 1, 1, 6, 3, 1, 160, 2, 1, 158, 0, 1])], []))
abbrev b_Mo_word_at_s5002 : ByteArray := prog_15_method_213_code
def y_Mo_word_at_s5002 : MethodName := ⟨"DrawingHouseModel", "word", "(Ljava/lang/String;)Z"⟩
abbrev z_Mo_word_at_s5002 : List Cond := Cond.code y_Mo_word_at_s5002 b_Mo_word_at_s5002 4 (some .boolean) :: lw_g
def e_Mo_word_at_s5002 : en_T := ([(2, 0, 0, [150]), (2, 0, 0, [5002])], some (0, 0, 1, []), false, 7, 0, 0, [], [], (0, [], [], [(20, [2, 0], [50, 1, 1, 1158, 1160, 4, 6, 1, 2, 1, 0, 0, 1, 1, 6, 3, 1, 160, 2, 1, 158, 0, 1])], []))
abbrev b_Mo_word_at_s5003 : ByteArray := prog_15_method_213_code
def y_Mo_word_at_s5003 : MethodName := ⟨"DrawingHouseModel", "word", "(Ljava/lang/String;)Z"⟩
abbrev z_Mo_word_at_s5003 : List Cond := Cond.code y_Mo_word_at_s5003 b_Mo_word_at_s5003 4 (some .boolean) :: lw_g
def e_Mo_word_at_s5003 : en_T := ([(2, 0, 0, [150]), (2, 0, 0, [5003])], some (0, 0, 1, []), false, 7, 0, 0, [], [], (0, [], [], [(20, [2, 0], [50, 1, 1, 1158, 1160, 4, 6, 1, 2, 1, 0, 0, 1, 1, 6, 3, 1, 160, 2, 1, 158, 0, 1])], []))
abbrev b_Mo_word_at_s5022 : ByteArray := prog_15_method_213_code
def y_Mo_word_at_s5022 : MethodName := ⟨"DrawingHouseModel", "word", "(Ljava/lang/String;)Z"⟩
abbrev z_Mo_word_at_s5022 : List Cond := Cond.code y_Mo_word_at_s5022 b_Mo_word_at_s5022 4 (some .boolean) :: lw_g
def e_Mo_word_at_s5022 : en_T := ([(2, 0, 0, [150]), (2, 0, 0, [5022])], some (0, 0, 1, []), false, 7, 0, 0, [], [], (0, [], [], [(20, [2, 0], [50, 1, 1, 1158, 1160, 4, 6, 1, 2, 1, 0, 0, 1, 1, 6, 3, 1, 160, 2, 1, 158, 0, 1])], []))
abbrev b_Mo_word_at_s5023 : ByteArray := prog_15_method_213_code
def y_Mo_word_at_s5023 : MethodName := ⟨"DrawingHouseModel", "word", "(Ljava/lang/String;)Z"⟩
abbrev z_Mo_word_at_s5023 : List Cond := Cond.code y_Mo_word_at_s5023 b_Mo_word_at_s5023 4 (some .boolean) :: lw_g
def e_Mo_word_at_s5023 : en_T := ([(2, 0, 0, [150]), (2, 0, 0, [5023])], some (0, 0, 1, []), false, 7, 0, 0, [], [], (0, [], [], [(20, [2, 0], [50, 1, 1, 1158, 1160, 4, 6, 1, 2, 1, 0, 0, 1, 1, 6, 3, 1, 160, 2, 1, 158, 0, 1])], []))
abbrev b_Mo_word_at_s5024 : ByteArray := prog_15_method_213_code
def y_Mo_word_at_s5024 : MethodName := ⟨"DrawingHouseModel", "word", "(Ljava/lang/String;)Z"⟩
abbrev z_Mo_word_at_s5024 : List Cond := Cond.code y_Mo_word_at_s5024 b_Mo_word_at_s5024 4 (some .boolean) :: lw_g
def e_Mo_word_at_s5024 : en_T := ([(2, 0, 0, [150]), (2, 0, 0, [5024])], some (0, 0, 1, []), false, 7, 0, 0, [], [], (0, [], [], [(20, [2, 0], [50, 1, 1, 1158, 1160, 4, 6, 1, 2, 1, 0, 0, 1, 1, 6, 3, 1, 160, 2, 1, 158, 0, 1])], []))
abbrev b_Mo_word_at_s5025 : ByteArray := prog_15_method_213_code
def y_Mo_word_at_s5025 : MethodName := ⟨"DrawingHouseModel", "word", "(Ljava/lang/String;)Z"⟩
abbrev z_Mo_word_at_s5025 : List Cond := Cond.code y_Mo_word_at_s5025 b_Mo_word_at_s5025 4 (some .boolean) :: lw_g
def e_Mo_word_at_s5025 : en_T := ([(2, 0, 0, [150]), (2, 0, 0, [5025])], some (0, 0, 1, []), false, 7, 0, 0, [], [], (0, [], [], [(20, [2, 0], [50, 1, 1, 1158, 1160, 4, 6, 1, 2, 1, 0, 0, 1, 1, 6, 3, 1, 160, 2, 1, 158, 0, 1])], []))
abbrev b_Mo_word_at_s5026 : ByteArray := prog_15_method_213_code
def y_Mo_word_at_s5026 : MethodName := ⟨"DrawingHouseModel", "word", "(Ljava/lang/String;)Z"⟩
abbrev z_Mo_word_at_s5026 : List Cond := Cond.code y_Mo_word_at_s5026 b_Mo_word_at_s5026 4 (some .boolean) :: lw_g
def e_Mo_word_at_s5026 : en_T := ([(2, 0, 0, [150]), (2, 0, 0, [5026])], some (0, 0, 1, []), false, 7, 0, 0, [], [], (0, [], [], [(20, [2, 0], [50, 1, 1, 1158, 1160, 4, 6, 1, 2, 1, 0, 0, 1, 1, 6, 3, 1, 160, 2, 1, 158, 0, 1])], []))
abbrev b_Mo_word_at_s5027 : ByteArray := prog_15_method_213_code
def y_Mo_word_at_s5027 : MethodName := ⟨"DrawingHouseModel", "word", "(Ljava/lang/String;)Z"⟩
abbrev z_Mo_word_at_s5027 : List Cond := Cond.code y_Mo_word_at_s5027 b_Mo_word_at_s5027 4 (some .boolean) :: lw_g
def e_Mo_word_at_s5027 : en_T := ([(2, 0, 0, [150]), (2, 0, 0, [5027])], some (0, 0, 1, []), false, 7, 0, 0, [], [], (0, [], [], [(20, [2, 0], [50, 1, 1, 1158, 1160, 4, 6, 1, 2, 1, 0, 0, 1, 1, 6, 3, 1, 160, 2, 1, 158, 0, 1])], []))
abbrev b_Mo_word_at_s5028 : ByteArray := prog_15_method_213_code
def y_Mo_word_at_s5028 : MethodName := ⟨"DrawingHouseModel", "word", "(Ljava/lang/String;)Z"⟩
abbrev z_Mo_word_at_s5028 : List Cond := Cond.code y_Mo_word_at_s5028 b_Mo_word_at_s5028 4 (some .boolean) :: lw_g
def e_Mo_word_at_s5028 : en_T := ([(2, 0, 0, [150]), (2, 0, 0, [5028])], some (0, 0, 1, []), false, 7, 0, 0, [], [], (0, [], [], [(20, [2, 0], [50, 1, 1, 1158, 1160, 4, 6, 1, 2, 1, 0, 0, 1, 1, 6, 3, 1, 160, 2, 1, 158, 0, 1])], []))
abbrev b_Mo_word_at_s5029 : ByteArray := prog_15_method_213_code
def y_Mo_word_at_s5029 : MethodName := ⟨"DrawingHouseModel", "word", "(Ljava/lang/String;)Z"⟩
abbrev z_Mo_word_at_s5029 : List Cond := Cond.code y_Mo_word_at_s5029 b_Mo_word_at_s5029 4 (some .boolean) :: lw_g
def e_Mo_word_at_s5029 : en_T := ([(2, 0, 0, [150]), (2, 0, 0, [5029])], some (0, 0, 1, []), false, 7, 0, 0, [], [], (0, [], [], [(20, [2, 0], [50, 1, 1, 1158, 1160, 4, 6, 1, 2, 1, 0, 0, 1, 1, 6, 3, 1, 160, 2, 1, 158, 0, 1])], []))
abbrev b_Mo_word_at_s5030 : ByteArray := prog_15_method_213_code
def y_Mo_word_at_s5030 : MethodName := ⟨"DrawingHouseModel", "word", "(Ljava/lang/String;)Z"⟩
abbrev z_Mo_word_at_s5030 : List Cond := Cond.code y_Mo_word_at_s5030 b_Mo_word_at_s5030 4 (some .boolean) :: lw_g
def e_Mo_word_at_s5030 : en_T := ([(2, 0, 0, [150]), (2, 0, 0, [5030])], some (0, 0, 1, []), false, 7, 0, 0, [], [], (0, [], [], [(20, [2, 0], [50, 1, 1, 1158, 1160, 4, 6, 1, 2, 1, 0, 0, 1, 1, 6, 3, 1, 160, 2, 1, 158, 0, 1])], []))
abbrev b_Mo_word_at_s5031 : ByteArray := prog_15_method_213_code
def y_Mo_word_at_s5031 : MethodName := ⟨"DrawingHouseModel", "word", "(Ljava/lang/String;)Z"⟩
abbrev z_Mo_word_at_s5031 : List Cond := Cond.code y_Mo_word_at_s5031 b_Mo_word_at_s5031 4 (some .boolean) :: lw_g
def e_Mo_word_at_s5031 : en_T := ([(2, 0, 0, [150]), (2, 0, 0, [5031])], some (0, 0, 1, []), false, 7, 0, 0, [], [], (0, [], [], [(20, [2, 0], [50, 1, 1, 1158, 1160, 4, 6, 1, 2, 1, 0, 0, 1, 1, 6, 3, 1, 160, 2, 1, 158, 0, 1])], []))
abbrev b_Mo_word_at_s5032 : ByteArray := prog_15_method_213_code
def y_Mo_word_at_s5032 : MethodName := ⟨"DrawingHouseModel", "word", "(Ljava/lang/String;)Z"⟩
abbrev z_Mo_word_at_s5032 : List Cond := Cond.code y_Mo_word_at_s5032 b_Mo_word_at_s5032 4 (some .boolean) :: lw_g
def e_Mo_word_at_s5032 : en_T := ([(2, 0, 0, [150]), (2, 0, 0, [5032])], some (0, 0, 1, []), false, 7, 0, 0, [], [], (0, [], [], [(20, [2, 0], [50, 1, 1, 1158, 1160, 4, 6, 1, 2, 1, 0, 0, 1, 1, 6, 3, 1, 160, 2, 1, 158, 0, 1])], []))
abbrev b_Mo_word_at_s5033 : ByteArray := prog_15_method_213_code
def y_Mo_word_at_s5033 : MethodName := ⟨"DrawingHouseModel", "word", "(Ljava/lang/String;)Z"⟩
abbrev z_Mo_word_at_s5033 : List Cond := Cond.code y_Mo_word_at_s5033 b_Mo_word_at_s5033 4 (some .boolean) :: lw_g
def e_Mo_word_at_s5033 : en_T := ([(2, 0, 0, [150]), (2, 0, 0, [5033])], some (0, 0, 1, []), false, 7, 0, 0, [], [], (0, [], [], [(20, [2, 0], [50, 1, 1, 1158, 1160, 4, 6, 1, 2, 1, 0, 0, 1, 1, 6, 3, 1, 160, 2, 1, 158, 0, 1])], []))
abbrev b_Mo_word_at_s5034 : ByteArray := prog_15_method_213_code
def y_Mo_word_at_s5034 : MethodName := ⟨"DrawingHouseModel", "word", "(Ljava/lang/String;)Z"⟩
abbrev z_Mo_word_at_s5034 : List Cond := Cond.code y_Mo_word_at_s5034 b_Mo_word_at_s5034 4 (some .boolean) :: lw_g
def e_Mo_word_at_s5034 : en_T := ([(2, 0, 0, [150]), (2, 0, 0, [5034])], some (0, 0, 1, []), false, 7, 0, 0, [], [], (0, [], [], [(20, [2, 0], [50, 1, 1, 1158, 1160, 4, 6, 1, 2, 1, 0, 0, 1, 1, 6, 3, 1, 160, 2, 1, 158, 0, 1])], []))
abbrev b_Mo_word_at_s5035 : ByteArray := prog_15_method_213_code
def y_Mo_word_at_s5035 : MethodName := ⟨"DrawingHouseModel", "word", "(Ljava/lang/String;)Z"⟩
abbrev z_Mo_word_at_s5035 : List Cond := Cond.code y_Mo_word_at_s5035 b_Mo_word_at_s5035 4 (some .boolean) :: lw_g
def e_Mo_word_at_s5035 : en_T := ([(2, 0, 0, [150]), (2, 0, 0, [5035])], some (0, 0, 1, []), false, 7, 0, 0, [], [], (0, [], [], [(20, [2, 0], [50, 1, 1, 1158, 1160, 4, 6, 1, 2, 1, 0, 0, 1, 1, 6, 3, 1, 160, 2, 1, 158, 0, 1])], []))
abbrev b_Mo_word_at_s5036 : ByteArray := prog_15_method_213_code
def y_Mo_word_at_s5036 : MethodName := ⟨"DrawingHouseModel", "word", "(Ljava/lang/String;)Z"⟩
abbrev z_Mo_word_at_s5036 : List Cond := Cond.code y_Mo_word_at_s5036 b_Mo_word_at_s5036 4 (some .boolean) :: lw_g
def e_Mo_word_at_s5036 : en_T := ([(2, 0, 0, [150]), (2, 0, 0, [5036])], some (0, 0, 1, []), false, 7, 0, 0, [], [], (0, [], [], [(20, [2, 0], [50, 1, 1, 1158, 1160, 4, 6, 1, 2, 1, 0, 0, 1, 1, 6, 3, 1, 160, 2, 1, 158, 0, 1])], []))
abbrev b_Mo_word_at_s5037 : ByteArray := prog_15_method_213_code
def y_Mo_word_at_s5037 : MethodName := ⟨"DrawingHouseModel", "word", "(Ljava/lang/String;)Z"⟩
abbrev z_Mo_word_at_s5037 : List Cond := Cond.code y_Mo_word_at_s5037 b_Mo_word_at_s5037 4 (some .boolean) :: lw_g
def e_Mo_word_at_s5037 : en_T := ([(2, 0, 0, [150]), (2, 0, 0, [5037])], some (0, 0, 1, []), false, 7, 0, 0, [], [], (0, [], [], [(20, [2, 0], [50, 1, 1, 1158, 1160, 4, 6, 1, 2, 1, 0, 0, 1, 1, 6, 3, 1, 160, 2, 1, 158, 0, 1])], []))
abbrev b_Mo_word_at_s5038 : ByteArray := prog_15_method_213_code
def y_Mo_word_at_s5038 : MethodName := ⟨"DrawingHouseModel", "word", "(Ljava/lang/String;)Z"⟩
abbrev z_Mo_word_at_s5038 : List Cond := Cond.code y_Mo_word_at_s5038 b_Mo_word_at_s5038 4 (some .boolean) :: lw_g
def e_Mo_word_at_s5038 : en_T := ([(2, 0, 0, [150]), (2, 0, 0, [5038])], some (0, 0, 1, []), false, 7, 0, 0, [], [], (0, [], [], [(20, [2, 0], [50, 1, 1, 1158, 1160, 4, 6, 1, 2, 1, 0, 0, 1, 1, 6, 3, 1, 160, 2, 1, 158, 0, 1])], []))
abbrev b_Mo_word_at_s5039 : ByteArray := prog_15_method_213_code
def y_Mo_word_at_s5039 : MethodName := ⟨"DrawingHouseModel", "word", "(Ljava/lang/String;)Z"⟩
abbrev z_Mo_word_at_s5039 : List Cond := Cond.code y_Mo_word_at_s5039 b_Mo_word_at_s5039 4 (some .boolean) :: lw_g
def e_Mo_word_at_s5039 : en_T := ([(2, 0, 0, [150]), (2, 0, 0, [5039])], some (0, 0, 1, []), false, 7, 0, 0, [], [], (0, [], [], [(20, [2, 0], [50, 1, 1, 1158, 1160, 4, 6, 1, 2, 1, 0, 0, 1, 1, 6, 3, 1, 160, 2, 1, 158, 0, 1])], []))
abbrev b_Mo_word_at_s5040 : ByteArray := prog_15_method_213_code
def y_Mo_word_at_s5040 : MethodName := ⟨"DrawingHouseModel", "word", "(Ljava/lang/String;)Z"⟩
abbrev z_Mo_word_at_s5040 : List Cond := Cond.code y_Mo_word_at_s5040 b_Mo_word_at_s5040 4 (some .boolean) :: lw_g
def e_Mo_word_at_s5040 : en_T := ([(2, 0, 0, [150]), (2, 0, 0, [5040])], some (0, 0, 1, []), false, 7, 0, 0, [], [], (0, [], [], [(20, [2, 0], [50, 1, 1, 1158, 1160, 4, 6, 1, 2, 1, 0, 0, 1, 1, 6, 3, 1, 160, 2, 1, 158, 0, 1])], []))
abbrev b_Mo_word_at_s5041 : ByteArray := prog_15_method_213_code
def y_Mo_word_at_s5041 : MethodName := ⟨"DrawingHouseModel", "word", "(Ljava/lang/String;)Z"⟩
abbrev z_Mo_word_at_s5041 : List Cond := Cond.code y_Mo_word_at_s5041 b_Mo_word_at_s5041 4 (some .boolean) :: lw_g
def e_Mo_word_at_s5041 : en_T := ([(2, 0, 0, [150]), (2, 0, 0, [5041])], some (0, 0, 1, []), false, 7, 0, 0, [], [], (0, [], [], [(20, [2, 0], [50, 1, 1, 1158, 1160, 4, 6, 1, 2, 1, 0, 0, 1, 1, 6, 3, 1, 160, 2, 1, 158, 0, 1])], []))
abbrev b_Mo_word_at_s5042 : ByteArray := prog_15_method_213_code
def y_Mo_word_at_s5042 : MethodName := ⟨"DrawingHouseModel", "word", "(Ljava/lang/String;)Z"⟩
abbrev z_Mo_word_at_s5042 : List Cond := Cond.code y_Mo_word_at_s5042 b_Mo_word_at_s5042 4 (some .boolean) :: lw_g
def e_Mo_word_at_s5042 : en_T := ([(2, 0, 0, [150]), (2, 0, 0, [5042])], some (0, 0, 1, []), false, 7, 0, 0, [], [], (0, [], [], [(20, [2, 0], [50, 1, 1, 1158, 1160, 4, 6, 1, 2, 1, 0, 0, 1, 1, 6, 3, 1, 160, 2, 1, 158, 0, 1])], []))
abbrev b_Mo_word_at_s5043 : ByteArray := prog_15_method_213_code
def y_Mo_word_at_s5043 : MethodName := ⟨"DrawingHouseModel", "word", "(Ljava/lang/String;)Z"⟩
abbrev z_Mo_word_at_s5043 : List Cond := Cond.code y_Mo_word_at_s5043 b_Mo_word_at_s5043 4 (some .boolean) :: lw_g
def e_Mo_word_at_s5043 : en_T := ([(2, 0, 0, [150]), (2, 0, 0, [5043])], some (0, 0, 1, []), false, 7, 0, 0, [], [], (0, [], [], [(20, [2, 0], [50, 1, 1, 1158, 1160, 4, 6, 1, 2, 1, 0, 0, 1, 1, 6, 3, 1, 160, 2, 1, 158, 0, 1])], []))
abbrev b_Mo_word_at_s5044 : ByteArray := prog_15_method_213_code
def y_Mo_word_at_s5044 : MethodName := ⟨"DrawingHouseModel", "word", "(Ljava/lang/String;)Z"⟩
abbrev z_Mo_word_at_s5044 : List Cond := Cond.code y_Mo_word_at_s5044 b_Mo_word_at_s5044 4 (some .boolean) :: lw_g
def e_Mo_word_at_s5044 : en_T := ([(2, 0, 0, [150]), (2, 0, 0, [5044])], some (0, 0, 1, []), false, 7, 0, 0, [], [], (0, [], [], [(20, [2, 0], [50, 1, 1, 1158, 1160, 4, 6, 1, 2, 1, 0, 0, 1, 1, 6, 3, 1, 160, 2, 1, 158, 0, 1])], []))
abbrev b_Mo_write_at_s5013 : ByteArray := prog_15_method_233_code
def y_Mo_write_at_s5013 : MethodName := ⟨"DrawingHouseModel", "write", "(Ljava/lang/String;)V"⟩
abbrev z_Mo_write_at_s5013 : List Cond := Cond.code y_Mo_write_at_s5013 b_Mo_write_at_s5013 3 none :: lw_g
def e_Mo_write_at_s5013 : en_T := ([(2, 0, 0, [150]), (2, 0, 0, [5013])], none, false, 7, 0, 0, [], [], (237142198758023568227473377297792835283496928595231875152809132048206089502588928, [(13, 170)], [(20, [0, 2], [30, 0, 1, 1, 170, -1, 0, 0])], [(20, [0, 2], [30, 5, 1, 1, 170, -1, 0, 0])], [(0, 0, 99999995, [])]))
abbrev b_Mo_write_at_s5014 : ByteArray := prog_15_method_233_code
def y_Mo_write_at_s5014 : MethodName := ⟨"DrawingHouseModel", "write", "(Ljava/lang/String;)V"⟩
abbrev z_Mo_write_at_s5014 : List Cond := Cond.code y_Mo_write_at_s5014 b_Mo_write_at_s5014 3 none :: lw_g
def e_Mo_write_at_s5014 : en_T := ([(2, 0, 0, [150]), (2, 0, 0, [5014])], none, false, 7, 0, 0, [], [], (237142198758023568227473377297792835283496928595231875152809132048206089502588928, [(13, 170)], [(20, [0, 2], [30, 0, 1, 1, 170, -1, 0, 0])], [(20, [0, 2], [30, 7, 1, 1, 170, -1, 0, 0])], [(0, 0, 99999993, [])]))
abbrev b_Mo_write_at_s5015 : ByteArray := prog_15_method_233_code
def y_Mo_write_at_s5015 : MethodName := ⟨"DrawingHouseModel", "write", "(Ljava/lang/String;)V"⟩
abbrev z_Mo_write_at_s5015 : List Cond := Cond.code y_Mo_write_at_s5015 b_Mo_write_at_s5015 3 none :: lw_g
def e_Mo_write_at_s5015 : en_T := ([(2, 0, 0, [150]), (2, 0, 0, [5015])], none, false, 7, 0, 0, [], [], (237142198758023568227473377297792835283496928595231875152809132048206089502588928, [(13, 170)], [(20, [0, 2], [30, 0, 1, 1, 170, -1, 0, 0])], [(20, [0, 2], [30, 2, 1, 1, 170, -1, 0, 0])], [(0, 0, 99999998, [])]))
abbrev b_Mo_write_at_s5016 : ByteArray := prog_15_method_233_code
def y_Mo_write_at_s5016 : MethodName := ⟨"DrawingHouseModel", "write", "(Ljava/lang/String;)V"⟩
abbrev z_Mo_write_at_s5016 : List Cond := Cond.code y_Mo_write_at_s5016 b_Mo_write_at_s5016 3 none :: lw_g
def e_Mo_write_at_s5016 : en_T := ([(2, 0, 0, [150]), (2, 0, 0, [5016])], none, false, 7, 0, 0, [], [], (237142198758023568227473377297792835283496928595231875152809132048206089502588928, [(13, 170)], [(20, [0, 2], [30, 0, 1, 1, 170, -1, 0, 0])], [(20, [0, 2], [30, 6, 1, 1, 170, -1, 0, 0])], [(0, 0, 99999994, [])]))
abbrev b_Mo_write_at_s5017 : ByteArray := prog_15_method_233_code
def y_Mo_write_at_s5017 : MethodName := ⟨"DrawingHouseModel", "write", "(Ljava/lang/String;)V"⟩
abbrev z_Mo_write_at_s5017 : List Cond := Cond.code y_Mo_write_at_s5017 b_Mo_write_at_s5017 3 none :: lw_g
def e_Mo_write_at_s5017 : en_T := ([(2, 0, 0, [150]), (2, 0, 0, [5017])], none, false, 7, 0, 0, [], [], (237142198758023568227473377297792835283496928595231875152809132048206089502588928, [(13, 170)], [(20, [0, 2], [30, 0, 1, 1, 170, -1, 0, 0])], [(20, [0, 2], [30, 3, 1, 1, 170, -1, 0, 0])], [(0, 0, 99999997, [])]))
abbrev b_Mo_write_at_s5018 : ByteArray := prog_15_method_233_code
def y_Mo_write_at_s5018 : MethodName := ⟨"DrawingHouseModel", "write", "(Ljava/lang/String;)V"⟩
abbrev z_Mo_write_at_s5018 : List Cond := Cond.code y_Mo_write_at_s5018 b_Mo_write_at_s5018 3 none :: lw_g
def e_Mo_write_at_s5018 : en_T := ([(2, 0, 0, [150]), (2, 0, 0, [5018])], none, false, 7, 0, 0, [], [], (237142198758023568227473377297792835283496928595231875152809132048206089502588928, [(13, 170)], [(20, [0, 2], [30, 0, 1, 1, 170, -1, 0, 0])], [(20, [0, 2], [30, 2, 1, 1, 170, -1, 0, 0])], [(0, 0, 99999998, [])]))
abbrev b_Mo_write_at_s5019 : ByteArray := prog_15_method_233_code
def y_Mo_write_at_s5019 : MethodName := ⟨"DrawingHouseModel", "write", "(Ljava/lang/String;)V"⟩
abbrev z_Mo_write_at_s5019 : List Cond := Cond.code y_Mo_write_at_s5019 b_Mo_write_at_s5019 3 none :: lw_g
def e_Mo_write_at_s5019 : en_T := ([(2, 0, 0, [150]), (2, 0, 0, [5019])], none, false, 7, 0, 0, [], [], (237142198758023568227473377297792835283496928595231875152809132048206089502588928, [(13, 170)], [(20, [0, 2], [30, 0, 1, 1, 170, -1, 0, 0])], [(20, [0, 2], [30, 3, 1, 1, 170, -1, 0, 0])], [(0, 0, 99999997, [])]))
abbrev b_Mo_write_at_s5020 : ByteArray := prog_15_method_233_code
def y_Mo_write_at_s5020 : MethodName := ⟨"DrawingHouseModel", "write", "(Ljava/lang/String;)V"⟩
abbrev z_Mo_write_at_s5020 : List Cond := Cond.code y_Mo_write_at_s5020 b_Mo_write_at_s5020 3 none :: lw_g
def e_Mo_write_at_s5020 : en_T := ([(2, 0, 0, [150]), (2, 0, 0, [5020])], none, false, 7, 0, 0, [], [], (237142198758023568227473377297792835283496928595231875152809132048206089502588928, [(13, 170)], [(20, [0, 2], [30, 0, 1, 1, 170, -1, 0, 0])], [(20, [0, 2], [30, 3, 1, 1, 170, -1, 0, 0])], [(0, 0, 99999997, [])]))
abbrev b_Mo_write_at_s5021 : ByteArray := prog_15_method_233_code
def y_Mo_write_at_s5021 : MethodName := ⟨"DrawingHouseModel", "write", "(Ljava/lang/String;)V"⟩
abbrev z_Mo_write_at_s5021 : List Cond := Cond.code y_Mo_write_at_s5021 b_Mo_write_at_s5021 3 none :: lw_g
def e_Mo_write_at_s5021 : en_T := ([(2, 0, 0, [150]), (2, 0, 0, [5021])], none, false, 7, 0, 0, [], [], (237142198758023568227473377297792835283496928595231875152809132048206089502588928, [(13, 170)], [(20, [0, 2], [30, 0, 1, 1, 170, -1, 0, 0])], [(20, [0, 2], [30, 9, 1, 1, 170, -1, 0, 0])], [(0, 0, 99999991, [])]))
abbrev b_Mo_write_at_s5045 : ByteArray := prog_15_method_233_code
def y_Mo_write_at_s5045 : MethodName := ⟨"DrawingHouseModel", "write", "(Ljava/lang/String;)V"⟩
abbrev z_Mo_write_at_s5045 : List Cond := Cond.code y_Mo_write_at_s5045 b_Mo_write_at_s5045 3 none :: lw_g
def e_Mo_write_at_s5045 : en_T := ([(2, 0, 0, [150]), (2, 0, 0, [5045])], none, false, 7, 0, 0, [], [], (237142198758023568227473377297792835283496928595231875152809132048206089502588928, [(13, 170)], [(20, [0, 2], [30, 0, 1, 1, 170, -1, 0, 0])], [(20, [0, 2], [30, 1, 1, 1, 170, -1, 0, 0])], [(0, 0, 99999999, [])]))
abbrev b_La_stretchRows : ByteArray := prog_6_method_29_code
def y_La_stretchRows : MethodName := ⟨"DrawingHouse$Layers", "stretchRows", "()V"⟩
abbrev z_La_stretchRows : List Cond := Cond.code y_La_stretchRows b_La_stretchRows 6 none :: lw_g
def e_La_stretchRows : en_T := ([(2, 0, 0, [4])], none, false, 9, 0, 0, [], [((0, 1), (2, 0, 0, [3]))], (42202988866171078964695874163900940288, [(10, 0), (10, 1)], [(20, [0], [30, -1, -1, 1, 2])], [], []))
abbrev b_Mo_areaOf : ByteArray := prog_15_method_210_code
def y_Mo_areaOf : MethodName := ⟨"DrawingHouseModel", "areaOf", "()J"⟩
abbrev z_Mo_areaOf : List Cond := Cond.code y_Mo_areaOf b_Mo_areaOf 1 (some .long) :: lw_g
def e_Mo_areaOf : en_T := ([(2, 0, 0, [150])], some (1, -9223372036854775808, 9223372036854775807, []), false, 9, 0, 0, [], [], (0, [(13, 153), (13, 154), (13, 155), (13, 156)], [], [], []))
abbrev b_Mo_areas : ByteArray := prog_15_method_165_code
def y_Mo_areas : MethodName := ⟨"DrawingHouseModel", "areas", "(II)I"⟩
abbrev z_Mo_areas : List Cond := Cond.code y_Mo_areas b_Mo_areas 5 (some .int) :: lw_g
def e_Mo_areas : en_T := ([(2, 0, 0, [150]), (0, 0, 3, []), (0, -2147483648, 2147483647, [])], some (0, -2, 0, []), false, 9, 0, 0, [], [], (169617318218727607347946247117410154580469279811951176197226203787001069568, [(13, 132), (13, 133), (13, 134)], [], [], []))
abbrev b_Mo_edgeWord : ByteArray := prog_15_method_228_code
def y_Mo_edgeWord : MethodName := ⟨"DrawingHouseModel", "edgeWord", "()I"⟩
abbrev z_Mo_edgeWord : List Cond := Cond.code y_Mo_edgeWord b_Mo_edgeWord 1 (some .int) :: lw_g
def e_Mo_edgeWord : en_T := ([(2, 0, 0, [150])], some (0, -1, 7, []), false, 8, 0, 0, [], [], (0, [], [], [], []))
abbrev b_Mo_isName : ByteArray := prog_15_method_33_code
def y_Mo_isName : MethodName := ⟨"DrawingHouseModel", "isName", "()Z"⟩
abbrev z_Mo_isName : List Cond := Cond.code y_Mo_isName b_Mo_isName 1 (some .boolean) :: lw_g
def e_Mo_isName : en_T := ([(2, 0, 0, [150])], some (0, 0, 1, []), false, 8, 0, 0, [], [], (0, [], [], [(20, [1, 0], [50, 1, 0, 1012, 4, 6, 1, 2, 1, 0, 0, 1, 1, 3, 2, 1, 12, 0, 1])], []))
abbrev b_Mo_nodeWord : ByteArray := prog_15_method_227_code
def y_Mo_nodeWord : MethodName := ⟨"DrawingHouseModel", "nodeWord", "()I"⟩
abbrev z_Mo_nodeWord : List Cond := Cond.code y_Mo_nodeWord b_Mo_nodeWord 1 (some .int) :: lw_g
def e_Mo_nodeWord : en_T := ([(2, 0, 0, [150])], some (0, -1, 9, []), false, 8, 0, 0, [], [], (0, [], [], [], []))
abbrev b_Mo_turnEdges : ByteArray := prog_15_method_117_code
def y_Mo_turnEdges : MethodName := ⟨"DrawingHouseModel", "turnEdges", "()V"⟩
abbrev z_Mo_turnEdges : List Cond := Cond.code y_Mo_turnEdges b_Mo_turnEdges 4 none :: lw_g
def e_Mo_turnEdges : en_T := ([(2, 0, 0, [150])], none, false, 9, 0, 0, [], [], (1579684375028357809603155648573199723556456635485005541664243056640, [(13, 99)], [], [], []))
abbrev b_Fa_learnTurned : ByteArray := prog_4_method_18_code
def y_Fa_learnTurned : MethodName := ⟨"DrawingHouse$Facts", "learnTurned", "(LDrawingHouse$Graph;)V"⟩
abbrev z_Fa_learnTurned : List Cond := Cond.code y_Fa_learnTurned b_Fa_learnTurned 6 none :: lw_g
def e_Fa_learnTurned : en_T := ([(2, 0, 0, [2]), (2, 0, 0, [3])], none, false, 10, 0, 0, [], [], (277626686013440, [], [], [], []))
abbrev b_Pl_layAreas : ByteArray := prog_8_method_9_code
def y_Pl_layAreas : MethodName := ⟨"DrawingHouse$PlainWays", "layAreas", "(I)V"⟩
abbrev z_Pl_layAreas : List Cond := Cond.code y_Pl_layAreas b_Pl_layAreas 3 none :: lw_g
def e_Pl_layAreas : en_T := ([(2, 0, 0, [6]), (0, -2147483648, 2147483647, [])], none, false, 9, 0, 0, [], [((0, 1), (2, 0, 0, [0])), ((0, 0), (2, 0, 0, [3]))], (277298568799925181577408069632, [(6, 11), (6, 13), (6, 14)], [], [], []))
abbrev b_Sy_closes : ByteArray := prog_13_method_14_code
def y_Sy_closes : MethodName := ⟨"DrawingHouse$Styler", "closes", "(I)Z"⟩
abbrev z_Sy_closes : List Cond := Cond.code y_Sy_closes b_Sy_closes 2 (some .boolean) :: lw_g
def e_Sy_closes : en_T := ([(2, 0, 0, [11]), (0, 41, 125, [])], some (0, 0, 1, []), false, 8, 0, 0, [([(2, 0, 0, [11]), (0, 41, 125, []), (2, 0, 0, [109]), (0, 1, 1, [])], [], [3], [((0, 3), 2)], [], []), ([(2, 0, 0, [11]), (0, 41, 125, []), (2, 0, 0, [109]), (0, 0, 0, [])], [], [3], [((0, 3), 2)], [], [])], [((0, 3), (2, 0, 0, [109]))], (0, [(11, 1), (11, 2), (11, 5), (11, 6), (11, 7), (11, 8)], [], [], []))
abbrev b_Mo_ofEdge : ByteArray := prog_15_method_207_code
def y_Mo_ofEdge : MethodName := ⟨"DrawingHouseModel", "ofEdge", "(II)J"⟩
abbrev z_Mo_ofEdge : List Cond := Cond.code y_Mo_ofEdge b_Mo_ofEdge 11 (some .long) :: lw_g
def e_Mo_ofEdge : en_T := ([(2, 0, 0, [150]), (0, 0, 47, []), (0, 2, 8, [])], some (1, -9223372036854775808, 9223372036854775807, []), true, 8, 0, 0, [], [], (0, [], [], [], []))
abbrev b_Mo_writeDrawing : ByteArray := prog_15_method_239_code
def y_Mo_writeDrawing : MethodName := ⟨"DrawingHouseModel", "writeDrawing", "()V"⟩
abbrev z_Mo_writeDrawing : List Cond := Cond.code y_Mo_writeDrawing b_Mo_writeDrawing 3 none :: lw_g
def e_Mo_writeDrawing : en_T := ([(2, 0, 0, [150])], none, false, 9, 0, 0, [], [], (237142198758023568227473377297792835283496928595231875152809132048206089502588928, [(13, 170)], [(20, [0, 1], [30, 0, 1, 1, 170, -1, 0, 0])], [(20, [0, 1], [30, 34488, 1, 1, 170, -1, 0, 0])], [(0, 0, 99965512, [])]))
abbrev b_Ho_dots : ByteArray := prog_1_method_28_code
def y_Ho_dots : MethodName := ⟨"DrawingHouse", "dots", "(III)I"⟩
abbrev z_Ho_dots : List Cond := Cond.code y_Ho_dots b_Ho_dots 8 (some .int) :: lw_g
def e_Ho_dots : en_T := ([(2, 0, 0, [12]), (0, -2147483648, 2147483647, []), (0, -2147483648, 2147483647, []), (0, -2147483648, 2147483647, [])], some (0, -2147483648, 2147483647, []), false, 8, 0, 0, [], [], (348449143727040986586495598010130648530944, [(0, 17), (0, 18), (0, 19), (0, 20), (12, 14), (12, 15)], [], [], []))
abbrev b_Mo_tree : ByteArray := prog_15_method_159_code
def y_Mo_tree : MethodName := ⟨"DrawingHouseModel", "tree", "(I)I"⟩
abbrev z_Mo_tree : List Cond := Cond.code y_Mo_tree b_Mo_tree 9 (some .int) :: lw_g
def e_Mo_tree : en_T := ([(2, 0, 0, [150]), (0, -2147483648, 2147483647, [])], some (0, -2, 0, []), false, 9, 0, 0, [], [], (49471717813797171635398719328309702384940952345993832534804846381908361216, [], [], [], []))
abbrev b_Sy_apply : ByteArray := prog_13_method_18_code
def y_Sy_apply : MethodName := ⟨"DrawingHouse$Styler", "apply", "(LDrawingHouse$Graph;LDrawingHouse$Facts;LDrawingHouse$Drawing;)V"⟩
abbrev z_Sy_apply : List Cond := Cond.code y_Sy_apply b_Sy_apply 5 none :: lw_g
def e_Sy_apply : en_T := ([(2, 0, 0, [11]), (2, 0, 0, [3]), (2, 0, 0, [2]), (2, 0, 0, [0])], none, false, 9, 0, 0, [], [], (2041694201525630780780247644590617657344, [(11, 15)], [], [], []))
abbrev b_Ho_writeEdges : ByteArray := prog_1_method_42_code
def y_Ho_writeEdges : MethodName := ⟨"DrawingHouse", "writeEdges", "(LDrawingHouse$Graph;)V"⟩
abbrev z_Ho_writeEdges : List Cond := Cond.code y_Ho_writeEdges b_Ho_writeEdges 3 none :: lw_g
def e_Ho_writeEdges : en_T := ([(2, 0, 0, [12]), (2, 0, 0, [3])], none, false, 8, 0, 0, [], [], (261336857795280739939871698507597986398208, [(12, 12)], [(20, [0, 2], [30, 0, 1, 1, 12, -1, 0, 0])], [(20, [0, 2], [30, 1872, 1, 1, 12, -1, 0, 0])], [(0, 0, 99998128, [])]))
abbrev b_Mo_draws : ByteArray := prog_15_method_68_code
def y_Mo_draws : MethodName := ⟨"DrawingHouseModel", "draws", "(I)Z"⟩
abbrev z_Mo_draws : List Cond := Cond.code y_Mo_draws b_Mo_draws 6 (some .boolean) :: lw_g
def e_Mo_draws : en_T := ([(2, 0, 0, [150]), (0, 0, 79, [])], some (0, 0, 1, []), false, 10, 0, 0, [], [], (3061999387880161358443131111448048135896242550451732480, [(13, 39), (13, 45), (13, 49)], [], [], []))
abbrev b_Mo_meets : ByteArray := prog_15_method_201_code
def y_Mo_meets : MethodName := ⟨"DrawingHouseModel", "meets", "(IIII)Z"⟩
abbrev z_Mo_meets : List Cond := Cond.code y_Mo_meets b_Mo_meets 29 (some .boolean) :: lw_g
def e_Mo_meets : en_T := ([(2, 0, 0, [150]), (0, 0, 47, []), (0, 0, 24, []), (0, 0, 47, []), (0, 0, 24, [])], some (0, 0, 1, []), true, 9, 0, 0, [], [], (0, [], [(20, [2, 0, 1], [50, 1, 1, 1139, 1064, 0, 2, 1, 0, 3, 1, 64, 4, 7, 6, 2, 0, 48, 2, 1, 139, 1, 2]), (20, [4, 0, 3], [50, 1, 1, 1139, 1064, 0, 2, 1, 0, 3, 1, 64, 4, 7, 6, 2, 0, 48, 2, 1, 139, 1, 2])], [], []))
abbrev b_Ho_writeGroup_at_k0 : ByteArray := prog_1_method_41_code
def y_Ho_writeGroup_at_k0 : MethodName := ⟨"DrawingHouse", "writeGroup", "(LDrawingHouse$Graph;II)V"⟩
abbrev z_Ho_writeGroup_at_k0 : List Cond := Cond.code y_Ho_writeGroup_at_k0 b_Ho_writeGroup_at_k0 5 none :: lw_g
def e_Ho_writeGroup_at_k0 : en_T := ([(2, 0, 0, [12]), (2, 0, 0, [3]), (0, 0, 0, []), (0, 0, 0, [])], none, false, 13, 0, 0, [], [], (261336857795280739939871698507597986398208, [(12, 12)], [(20, [0, 4], [30, 0, 1, 1, 12, -1, 0, 0])], [(20, [0, 4], [30, 28573568, 1, 1, 12, -1, 0, 0])], [(0, 0, 71426432, [])]))
abbrev b_Ho_writeGroup_at_k1 : ByteArray := prog_1_method_41_code
def y_Ho_writeGroup_at_k1 : MethodName := ⟨"DrawingHouse", "writeGroup", "(LDrawingHouse$Graph;II)V"⟩
abbrev z_Ho_writeGroup_at_k1 : List Cond := Cond.code y_Ho_writeGroup_at_k1 b_Ho_writeGroup_at_k1 5 none :: lw_g
def e_Ho_writeGroup_at_k1 : en_T := ([(2, 0, 0, [12]), (2, 0, 0, [3]), (0, 1, 7, []), (0, 1, 1, [])], none, false, 12, 0, 0, [], [], (261336857795280739939871698507597986398208, [(12, 12)], [(20, [0, 4], [30, 0, 1, 1, 12, -1, 0, 0])], [(20, [0, 4], [30, 3571584, 1, 1, 12, -1, 0, 0])], [(0, 0, 96428416, [])]))
abbrev b_Ho_writeGroup_at_k2 : ByteArray := prog_1_method_41_code
def y_Ho_writeGroup_at_k2 : MethodName := ⟨"DrawingHouse", "writeGroup", "(LDrawingHouse$Graph;II)V"⟩
abbrev z_Ho_writeGroup_at_k2 : List Cond := Cond.code y_Ho_writeGroup_at_k2 b_Ho_writeGroup_at_k2 5 none :: lw_g
def e_Ho_writeGroup_at_k2 : en_T := ([(2, 0, 0, [12]), (2, 0, 0, [3]), (0, 2, 7, []), (0, 2, 2, [])], none, false, 11, 0, 0, [], [], (261336857795280739939871698507597986398208, [(12, 12)], [(20, [0, 4], [30, 0, 1, 1, 12, -1, 0, 0])], [(20, [0, 4], [30, 446336, 1, 1, 12, -1, 0, 0])], [(0, 0, 99553664, [])]))
abbrev b_Ho_writeGroup_at_k3 : ByteArray := prog_1_method_41_code
def y_Ho_writeGroup_at_k3 : MethodName := ⟨"DrawingHouse", "writeGroup", "(LDrawingHouse$Graph;II)V"⟩
abbrev z_Ho_writeGroup_at_k3 : List Cond := Cond.code y_Ho_writeGroup_at_k3 b_Ho_writeGroup_at_k3 5 none :: lw_g
def e_Ho_writeGroup_at_k3 : en_T := ([(2, 0, 0, [12]), (2, 0, 0, [3]), (0, 3, 7, []), (0, 3, 3, [])], none, false, 10, 0, 0, [], [], (261336857795280739939871698507597986398208, [(12, 12)], [(20, [0, 4], [30, 0, 1, 1, 12, -1, 0, 0])], [(20, [0, 4], [30, 55680, 1, 1, 12, -1, 0, 0])], [(0, 0, 99944320, [])]))
abbrev b_Ho_writeGroup_at_k4 : ByteArray := prog_1_method_41_code
def y_Ho_writeGroup_at_k4 : MethodName := ⟨"DrawingHouse", "writeGroup", "(LDrawingHouse$Graph;II)V"⟩
abbrev z_Ho_writeGroup_at_k4 : List Cond := Cond.code y_Ho_writeGroup_at_k4 b_Ho_writeGroup_at_k4 5 none :: lw_g
def e_Ho_writeGroup_at_k4 : en_T := ([(2, 0, 0, [12]), (2, 0, 0, [3]), (0, 4, 7, []), (0, 4, 4, [])], none, false, 9, 0, 0, [], [], (261336857795280739939871698507597986398208, [(12, 12)], [(20, [0, 4], [30, 0, 1, 1, 12, -1, 0, 0])], [(20, [0, 4], [30, 6848, 1, 1, 12, -1, 0, 0])], [(0, 0, 99993152, [])]))
abbrev b_Ho_writeGroup_at_k5 : ByteArray := prog_1_method_41_code
def y_Ho_writeGroup_at_k5 : MethodName := ⟨"DrawingHouse", "writeGroup", "(LDrawingHouse$Graph;II)V"⟩
abbrev z_Ho_writeGroup_at_k5 : List Cond := Cond.code y_Ho_writeGroup_at_k5 b_Ho_writeGroup_at_k5 5 none :: lw_g
def e_Ho_writeGroup_at_k5 : en_T := ([(2, 0, 0, [12]), (2, 0, 0, [3]), (0, 5, 7, []), (0, 5, 5, [])], none, false, 8, 0, 0, [], [], (261336857795280739939871698507597986398208, [(12, 12)], [(20, [0, 4], [30, 0, 1, 1, 12, -1, 0, 0])], [(20, [0, 4], [30, 744, 1, 1, 12, -1, 0, 0])], [(0, 0, 99999256, [])]))
abbrev b_Mo_edge : ByteArray := prog_15_method_100_code
def y_Mo_edge : MethodName := ⟨"DrawingHouseModel", "edge", "(III)I"⟩
abbrev z_Mo_edge : List Cond := Cond.code y_Mo_edge b_Mo_edge 5 (some .int) :: lw_g
def e_Mo_edge : en_T := ([(2, 0, 0, [150]), (0, -2147483648, 2147483647, []), (0, -2147483648, 2147483647, []), (0, -2147483648, 2147483647, [])], some (0, -1, 79, []), false, 9, 0, 0, [], [], (1825598232730964107701177816666727026927716737744896, [(13, 5), (13, 31), (13, 32)], [], [], []))
abbrev b_Pn_layBars : ByteArray := prog_9_method_15_code
def y_Pn_layBars : MethodName := ⟨"DrawingHouse$PlanarWays", "layBars", "(LDrawingHouse$Graph;LDrawingHouse$Net;LDrawingHouse$Drawing;)V"⟩
abbrev z_Pn_layBars : List Cond := Cond.code y_Pn_layBars b_Pn_layBars 5 none :: lw_g
def e_Pn_layBars : en_T := ([(2, 0, 0, [7]), (2, 0, 0, [3]), (2, 0, 0, [5]), (2, 0, 0, [0])], none, false, 9, 0, 0, [], [], (618613492911375947930442706436096, [(7, 3)], [], [], []))
abbrev b_Re_readValue_at_s5002 : ByteArray := prog_10_method_17_code
def y_Re_readValue_at_s5002 : MethodName := ⟨"DrawingHouse$Reader", "readValue", "(Ljava/lang/String;I)Z"⟩
abbrev z_Re_readValue_at_s5002 : List Cond := Cond.code y_Re_readValue_at_s5002 b_Re_readValue_at_s5002 3 (some .boolean) :: lw_g
def e_Re_readValue_at_s5002 : en_T := ([(2, 0, 0, [8]), (2, 0, 0, [5002]), (0, 99, 99, [])], some (0, 0, 1, []), false, 9, 0, 0, [], [], (0, [(8, 2), (8, 3), (8, 6), (8, 7), (8, 8), (8, 9)], [], [(20, [3, 0, 2], [31, 1, 0, 1, 0, 0, 0, 1, 1, 9, -1, 0, 0]), (20, [3, 0], [31, 1, 0, 1, 0, 0, -1, -1, 1, 9])], []))
abbrev b_Re_readValue_at_s5003 : ByteArray := prog_10_method_17_code
def y_Re_readValue_at_s5003 : MethodName := ⟨"DrawingHouse$Reader", "readValue", "(Ljava/lang/String;I)Z"⟩
abbrev z_Re_readValue_at_s5003 : List Cond := Cond.code y_Re_readValue_at_s5003 b_Re_readValue_at_s5003 3 (some .boolean) :: lw_g
def e_Re_readValue_at_s5003 : en_T := ([(2, 0, 0, [8]), (2, 0, 0, [5003]), (0, 9, 9, [])], some (0, 0, 1, []), false, 9, 0, 0, [], [], (0, [(8, 2), (8, 3), (8, 6), (8, 7), (8, 8), (8, 9)], [], [(20, [3, 0, 2], [31, 1, 0, 1, 0, 0, 0, 1, 1, 9, -1, 0, 0]), (20, [3, 0], [31, 1, 0, 1, 0, 0, -1, -1, 1, 9])], []))
abbrev b_Mo_change : ByteArray := prog_15_method_44_code
def y_Mo_change : MethodName := ⟨"DrawingHouseModel", "change", "(IIII)I"⟩
abbrev z_Mo_change : List Cond := Cond.code y_Mo_change b_Mo_change 5 (some .int) :: lw_g
def e_Mo_change : en_T := ([(2, 0, 0, [150]), (0, -2147483648, 2147483647, []), (0, -2147483648, 2147483647, []), (0, -2147483648, 2147483647, []), (0, -2147483648, 2147483647, [])], some (0, -1, 47, []), false, 10, 0, 0, [], [], (401832590779402948707821224171697902425446933613336676270080, [(13, 5)], [(20, [0], [50, 0, 2, 3, 4, 5, 2, 0, 4, 0, 5, 3, 0, 3, 7, 0, 3, 0, 4, 7, 0])], [(20, [0], [50, 0, 2, 3, 4, 5, 2, 0, 4, 0, 5, 3, 0, 3, 7, 0, 3, 0, 4, 7, 0])], []))
abbrev b_Mo_label : ByteArray := prog_15_method_196_code
def y_Mo_label : MethodName := ⟨"DrawingHouseModel", "label", "(III)I"⟩
abbrev z_Mo_label : List Cond := Cond.code y_Mo_label b_Mo_label 5 (some .int) :: lw_g
def e_Mo_label : en_T := ([(2, 0, 0, [150]), (0, -2147483648, 2147483647, []), (0, -2147483648, 2147483647, []), (0, -2147483648, 2147483647, [])], some (0, -2147483648, 2147483647, []), false, 9, 0, 0, [], [], (694752535423897172541425910052127447119619907993843384236745504047478777839616, [(13, 5), (13, 139), (13, 150)], [], [], []))
abbrev b_Mo_of_at_s5002 : ByteArray := prog_15_method_36_code
def y_Mo_of_at_s5002 : MethodName := ⟨"DrawingHouseModel", "of", "(Ljava/lang/String;I)I"⟩
abbrev z_Mo_of_at_s5002 : List Cond := Cond.code y_Mo_of_at_s5002 b_Mo_of_at_s5002 4 (some .int) :: lw_g
def e_Mo_of_at_s5002 : en_T := ([(2, 0, 0, [150]), (2, 0, 0, [5002]), (0, 99, 99, [])], some (0, -2147483648, 2147483647, []), false, 10, 0, 0, [], [], (0, [(13, 8), (13, 9), (13, 11), (13, 12), (13, 13), (13, 14), (13, 15)], [(20, [0, 0], [30, 0, 1, 1, 15, -1, 1, 11]), (20, [0], [50, 3, 0, 12, 11, 15, 2, 21, 4, 7, 1, 3, 2, 0, 12, 0, 1, 0, 3, 2, 0, 11, 4, 3, 2, 0, 15, 0, 8, 3, 7, 1, 3, 2, 0, 12, 0, 0, 0, 7, 4, 3, 2, 0, 15, 0, 1, 2, 0, 11]), (20, [3, 0], [30, 0, 1, 0, 0, -1, 1, 11]), (20, [0, 3], [50, 3, 0, 8, 12, 11, 3, 7, 0, 2, 0, 1, 2, 0, 8, 3, 7, 1, 3, 2, 0, 12, 0, 0, 0, 6, 4, 2, 1, 1, 0, 1, 2, 0, 11]), (20, [0, 4], [50, 1, 0, 8, 3, 7, 0, 2, 0, 1, 2, 0, 8, 0, 2, 0, 0, 1, 1])], [(20, [0, 0], [30, 0, 1, 1, 15, -1, 1, 11]), (20, [0], [50, 3, 0, 12, 11, 15, 2, 21, 4, 7, 1, 3, 2, 0, 12, 0, 1, 0, 3, 2, 0, 11, 4, 3, 2, 0, 15, 0, 8, 3, 7, 1, 3, 2, 0, 12, 0, 0, 0, 7, 4, 3, 2, 0, 15, 0, 1, 2, 0, 11]), (20, [3, 0], [30, 0, 1, 0, 0, -1, 1, 11]), (20, [0, 3], [50, 3, 0, 8, 12, 11, 3, 7, 0, 2, 0, 1, 2, 0, 8, 3, 7, 1, 3, 2, 0, 12, 0, 0, 0, 6, 4, 2, 1, 1, 0, 1, 2, 0, 11]), (20, [0, 4], [50, 1, 0, 8, 3, 7, 0, 2, 0, 1, 2, 0, 8, 0, 2, 0, 0, 1, 1]), (20, [5, 2], [30, 0, 1, 0, 0, -1, 0, 0]), (20, [5], [30, 0, -1, 0, 0])], [(0, 0, 2000, []), (0, -1, 48, [])]))
abbrev b_Mo_of_at_s5003 : ByteArray := prog_15_method_36_code
def y_Mo_of_at_s5003 : MethodName := ⟨"DrawingHouseModel", "of", "(Ljava/lang/String;I)I"⟩
abbrev z_Mo_of_at_s5003 : List Cond := Cond.code y_Mo_of_at_s5003 b_Mo_of_at_s5003 4 (some .int) :: lw_g
def e_Mo_of_at_s5003 : en_T := ([(2, 0, 0, [150]), (2, 0, 0, [5003]), (0, 9, 9, [])], some (0, -2147483648, 2147483647, []), false, 10, 0, 0, [], [], (0, [(13, 8), (13, 9), (13, 11), (13, 12), (13, 13), (13, 14), (13, 15)], [(20, [0, 0], [30, 0, 1, 1, 15, -1, 1, 11]), (20, [0], [50, 3, 0, 12, 11, 15, 2, 21, 4, 7, 1, 3, 2, 0, 12, 0, 1, 0, 3, 2, 0, 11, 4, 3, 2, 0, 15, 0, 8, 3, 7, 1, 3, 2, 0, 12, 0, 0, 0, 7, 4, 3, 2, 0, 15, 0, 1, 2, 0, 11]), (20, [3, 0], [30, 0, 1, 0, 0, -1, 1, 11]), (20, [0, 3], [50, 3, 0, 8, 12, 11, 3, 7, 0, 2, 0, 1, 2, 0, 8, 3, 7, 1, 3, 2, 0, 12, 0, 0, 0, 6, 4, 2, 1, 1, 0, 1, 2, 0, 11]), (20, [0, 4], [50, 1, 0, 8, 3, 7, 0, 2, 0, 1, 2, 0, 8, 0, 2, 0, 0, 1, 1])], [(20, [0, 0], [30, 0, 1, 1, 15, -1, 1, 11]), (20, [0], [50, 3, 0, 12, 11, 15, 2, 21, 4, 7, 1, 3, 2, 0, 12, 0, 1, 0, 3, 2, 0, 11, 4, 3, 2, 0, 15, 0, 8, 3, 7, 1, 3, 2, 0, 12, 0, 0, 0, 7, 4, 3, 2, 0, 15, 0, 1, 2, 0, 11]), (20, [3, 0], [30, 0, 1, 0, 0, -1, 1, 11]), (20, [0, 3], [50, 3, 0, 8, 12, 11, 3, 7, 0, 2, 0, 1, 2, 0, 8, 3, 7, 1, 3, 2, 0, 12, 0, 0, 0, 6, 4, 2, 1, 1, 0, 1, 2, 0, 11]), (20, [0, 4], [50, 1, 0, 8, 3, 7, 0, 2, 0, 1, 2, 0, 8, 0, 2, 0, 0, 1, 1]), (20, [5, 2], [30, 0, 1, 0, 0, -1, 0, 0]), (20, [5], [30, 0, -1, 0, 0])], [(0, 0, 2000, []), (0, -1, 48, [])]))
abbrev b_Re_readGroup : ByteArray := prog_10_method_15_code
def y_Re_readGroup : MethodName := ⟨"DrawingHouse$Reader", "readGroup", "()Z"⟩
abbrev z_Re_readGroup : List Cond := Cond.code y_Re_readGroup b_Re_readGroup 2 (some .boolean) :: lw_g
def e_Re_readGroup : en_T := ([(2, 0, 0, [8])], some (0, 0, 1, []), false, 9, 0, 0, [], [], (1298074214633707411535782347800576, [(3, 2), (8, 2), (8, 3), (8, 6), (8, 7), (8, 8), (8, 9), (8, 11)], [], [], []))
abbrev b_Mo_count : ByteArray := prog_15_method_98_code
def y_Mo_count : MethodName := ⟨"DrawingHouseModel", "count", "(II)I"⟩
abbrev z_Mo_count : List Cond := Cond.code y_Mo_count b_Mo_count 3 (some .int) :: lw_g
def e_Mo_count : en_T := ([(2, 0, 0, [150]), (0, -2147483648, 2147483647, []), (0, -2147483648, 2147483647, [])], some (0, -30, 80, []), false, 9, 0, 0, [], [], (1829708706085957272158625680258741572920499048022016, [(13, 5), (13, 31), (13, 32)], [], [], []))
abbrev b_Mo_writeEdges : ByteArray := prog_15_method_238_code
def y_Mo_writeEdges : MethodName := ⟨"DrawingHouseModel", "writeEdges", "()V"⟩
abbrev z_Mo_writeEdges : List Cond := Cond.code y_Mo_writeEdges b_Mo_writeEdges 2 none :: lw_g
def e_Mo_writeEdges : en_T := ([(2, 0, 0, [150])], none, false, 9, 0, 0, [], [], (237142198758023568227473377297792835283496928595231875152809132048206089502588928, [(13, 170)], [(20, [0, 1], [30, 0, 1, 1, 170, -1, 0, 0])], [(20, [0, 1], [30, 2112, 1, 1, 170, -1, 0, 0])], [(0, 0, 99997888, [])]))
abbrev b_Mo_writeGroup_at_l0 : ByteArray := prog_15_method_237_code
def y_Mo_writeGroup_at_l0 : MethodName := ⟨"DrawingHouseModel", "writeGroup", "(I)V"⟩
abbrev z_Mo_writeGroup_at_l0 : List Cond := Cond.code y_Mo_writeGroup_at_l0 b_Mo_writeGroup_at_l0 3 none :: lw_g
def e_Mo_writeGroup_at_l0 : en_T := ([(2, 0, 0, [150]), (0, 0, 0, [])], none, false, 16, 0, 0, [], [], (237142198758023568227473377297792835283496928595231875152809132048206089502588928, [(13, 170)], [(20, [0, 2], [30, 0, 1, 1, 170, -1, 0, 0])], [(20, [0, 2], [30, 12097081, 1, 1, 170, -1, 0, 0])], [(0, 0, 87902919, [])]))
abbrev b_Mo_writeGroup_at_l1 : ByteArray := prog_15_method_237_code
def y_Mo_writeGroup_at_l1 : MethodName := ⟨"DrawingHouseModel", "writeGroup", "(I)V"⟩
abbrev z_Mo_writeGroup_at_l1 : List Cond := Cond.code y_Mo_writeGroup_at_l1 b_Mo_writeGroup_at_l1 3 none :: lw_g
def e_Mo_writeGroup_at_l1 : en_T := ([(2, 0, 0, [150]), (0, 1, 7, [])], none, false, 15, 0, 0, [], [], (237142198758023568227473377297792835283496928595231875152809132048206089502588928, [(13, 170)], [(20, [0, 2], [30, 0, 1, 1, 170, -1, 0, 0])], [(20, [0, 2], [30, 1728012, 1, 1, 170, -1, 0, 0])], [(0, 0, 98271988, [])]))
abbrev b_Mo_writeGroup_at_l2 : ByteArray := prog_15_method_237_code
def y_Mo_writeGroup_at_l2 : MethodName := ⟨"DrawingHouseModel", "writeGroup", "(I)V"⟩
abbrev z_Mo_writeGroup_at_l2 : List Cond := Cond.code y_Mo_writeGroup_at_l2 b_Mo_writeGroup_at_l2 3 none :: lw_g
def e_Mo_writeGroup_at_l2 : en_T := ([(2, 0, 0, [150]), (0, 2, 7, [])], none, false, 14, 0, 0, [], [], (237142198758023568227473377297792835283496928595231875152809132048206089502588928, [(13, 170)], [(20, [0, 2], [30, 0, 1, 1, 170, -1, 0, 0])], [(20, [0, 2], [30, 287839, 1, 1, 170, -1, 0, 0])], [(0, 0, 99712161, [])]))
abbrev b_Mo_writeGroup_at_l3 : ByteArray := prog_15_method_237_code
def y_Mo_writeGroup_at_l3 : MethodName := ⟨"DrawingHouseModel", "writeGroup", "(I)V"⟩
abbrev z_Mo_writeGroup_at_l3 : List Cond := Cond.code y_Mo_writeGroup_at_l3 b_Mo_writeGroup_at_l3 3 none :: lw_g
def e_Mo_writeGroup_at_l3 : en_T := ([(2, 0, 0, [150]), (0, 3, 7, [])], none, false, 13, 0, 0, [], [], (237142198758023568227473377297792835283496928595231875152809132048206089502588928, [(13, 170)], [(20, [0, 2], [30, 0, 1, 1, 170, -1, 0, 0])], [(20, [0, 2], [30, 57376, 1, 1, 170, -1, 0, 0])], [(0, 0, 99942624, [])]))
abbrev b_Mo_writeGroup_at_l4 : ByteArray := prog_15_method_237_code
def y_Mo_writeGroup_at_l4 : MethodName := ⟨"DrawingHouseModel", "writeGroup", "(I)V"⟩
abbrev z_Mo_writeGroup_at_l4 : List Cond := Cond.code y_Mo_writeGroup_at_l4 b_Mo_writeGroup_at_l4 3 none :: lw_g
def e_Mo_writeGroup_at_l4 : en_T := ([(2, 0, 0, [150]), (0, 4, 7, [])], none, false, 12, 0, 0, [], [], (237142198758023568227473377297792835283496928595231875152809132048206089502588928, [(13, 170)], [(20, [0, 2], [30, 0, 1, 1, 170, -1, 0, 0])], [(20, [0, 2], [30, 14109, 1, 1, 170, -1, 0, 0])], [(0, 0, 99985891, [])]))
abbrev b_Mo_writeGroup_at_l5 : ByteArray := prog_15_method_237_code
def y_Mo_writeGroup_at_l5 : MethodName := ⟨"DrawingHouseModel", "writeGroup", "(I)V"⟩
abbrev z_Mo_writeGroup_at_l5 : List Cond := Cond.code y_Mo_writeGroup_at_l5 b_Mo_writeGroup_at_l5 3 none :: lw_g
def e_Mo_writeGroup_at_l5 : en_T := ([(2, 0, 0, [150]), (0, 5, 7, [])], none, false, 11, 0, 0, [], [], (237142198758023568227473377297792835283496928595231875152809132048206089502588928, [(13, 170)], [(20, [0, 2], [30, 0, 1, 1, 170, -1, 0, 0])], [(20, [0, 2], [30, 4396, 1, 1, 170, -1, 0, 0])], [(0, 0, 99995604, [])]))
abbrev b_Mo_writeGroup_at_l6 : ByteArray := prog_15_method_237_code
def y_Mo_writeGroup_at_l6 : MethodName := ⟨"DrawingHouseModel", "writeGroup", "(I)V"⟩
abbrev z_Mo_writeGroup_at_l6 : List Cond := Cond.code y_Mo_writeGroup_at_l6 b_Mo_writeGroup_at_l6 3 none :: lw_g
def e_Mo_writeGroup_at_l6 : en_T := ([(2, 0, 0, [150]), (0, 6, 7, [])], none, false, 10, 0, 0, [], [], (237142198758023568227473377297792835283496928595231875152809132048206089502588928, [(13, 170)], [(20, [0, 2], [30, 0, 1, 1, 170, -1, 0, 0])], [(20, [0, 2], [30, 1747, 1, 1, 170, -1, 0, 0])], [(0, 0, 99998253, [])]))
abbrev b_Mo_writeGroup_at_l7 : ByteArray := prog_15_method_237_code
def y_Mo_writeGroup_at_l7 : MethodName := ⟨"DrawingHouseModel", "writeGroup", "(I)V"⟩
abbrev z_Mo_writeGroup_at_l7 : List Cond := Cond.code y_Mo_writeGroup_at_l7 b_Mo_writeGroup_at_l7 3 none :: lw_g
def e_Mo_writeGroup_at_l7 : en_T := ([(2, 0, 0, [150]), (0, 7, 7, [])], none, false, 9, 0, 0, [], [], (237142198758023568227473377297792835283496928595231875152809132048206089502588928, [(13, 170)], [(20, [0, 2], [30, 0, 1, 1, 170, -1, 0, 0])], [(20, [0, 2], [30, 864, 1, 1, 170, -1, 0, 0])], [(0, 0, 99999136, [])]))
abbrev b_Mo_embed : ByteArray := prog_15_method_84_code
def y_Mo_embed : MethodName := ⟨"DrawingHouseModel", "embed", "()Z"⟩
abbrev z_Mo_embed : List Cond := Cond.code y_Mo_embed b_Mo_embed 4 (some .boolean) :: lw_g
def e_Mo_embed : en_T := ([(2, 0, 0, [150])], some (0, 0, 1, []), false, 11, 0, 0, [], [], (3064618581501963002835416890128879804602843438560313344, [(13, 39), (13, 45), (13, 49)], [], [], []))
abbrev b_Ho_change : ByteArray := prog_1_method_10_code
def y_Ho_change : MethodName := ⟨"DrawingHouse", "change", "(IIII)I"⟩
abbrev z_Ho_change : List Cond := Cond.code y_Ho_change b_Ho_change 6 (some .int) :: lw_g
def e_Ho_change : en_T := ([(2, 0, 0, [12]), (0, -2147483648, 2147483647, []), (0, -2147483648, 2147483647, []), (0, -2147483648, 2147483647, []), (0, -2147483648, 2147483647, [])], some (0, -1, 47, []), false, 11, 3, 3788, [], [], (5691412770192565637459361055147028046803926286285565003667419173263947533255704576, [(0, 1), (2, 0), (3, 0), (3, 1), (3, 16), (3, 17), (3, 18), (5, 0), (5, 1), (5, 2), (5, 3)], [], [], []))
abbrev b_Ho_text : ByteArray := prog_1_method_26_code
def y_Ho_text : MethodName := ⟨"DrawingHouse", "text", "(II)I"⟩
abbrev z_Ho_text : List Cond := Cond.code y_Ho_text b_Ho_text 4 (some .int) :: lw_g
def e_Ho_text : en_T := ([(2, 0, 0, [12]), (0, -2147483648, 2147483647, []), (0, -2147483648, 2147483647, [])], some (0, -1, 4000, []), false, 14, 0, 0, [], [], (261336857795280739939871698507597986398208, [(12, 9), (12, 10), (12, 11), (12, 12)], [], [], []))
abbrev b_Dr_verdict : ByteArray := prog_2_method_20_code
def y_Dr_verdict : MethodName := ⟨"DrawingHouse$Drawing", "verdict", "(I)J"⟩
abbrev z_Dr_verdict : List Cond := Cond.code y_Dr_verdict b_Dr_verdict 2 (some .long) :: lw_g
def e_Dr_verdict : en_T := ([(2, 0, 0, [0]), (0, -2147483648, 2147483647, [])], some (1, -9223372036854775808, 9223372036854775807, []), false, 11, 0, 0, [], [], (0, [(0, 17), (0, 18), (0, 19), (0, 20)], [], [], []))
abbrev b_Pn_layGrid : ByteArray := prog_9_method_3_code
def y_Pn_layGrid : MethodName := ⟨"DrawingHouse$PlanarWays", "layGrid", "(LDrawingHouse$Facts;LDrawingHouse$Net;LDrawingHouse$Drawing;)V"⟩
abbrev z_Pn_layGrid : List Cond := Cond.code y_Pn_layGrid b_Pn_layGrid 6 none :: lw_g
def e_Pn_layGrid : en_T := ([(2, 0, 0, [7]), (2, 0, 0, [2]), (2, 0, 0, [5]), (2, 0, 0, [0])], none, false, 11, 0, 0, [], [], (689929304579657777914243374988071889061134336, [(5, 5), (5, 6), (5, 13), (7, 3)], [], [], []))
abbrev b_Re_readNode : ByteArray := prog_10_method_14_code
def y_Re_readNode : MethodName := ⟨"DrawingHouse$Reader", "readNode", "()Z"⟩
abbrev z_Re_readNode : List Cond := Cond.code y_Re_readNode b_Re_readNode 2 (some .boolean) :: lw_g
def e_Re_readNode : en_T := ([(2, 0, 0, [8])], some (0, 0, 1, []), false, 10, 0, 0, [], [], (580682876954083328, [(3, 0), (8, 2), (8, 3), (8, 6), (8, 7), (8, 8), (8, 9)], [], [], []))
abbrev b_Mo_met : ByteArray := prog_15_method_35_code
def y_Mo_met : MethodName := ⟨"DrawingHouseModel", "met", "(II)I"⟩
abbrev z_Mo_met : List Cond := Cond.code y_Mo_met b_Mo_met 6 (some .int) :: lw_g
def e_Mo_met : en_T := ([(2, 0, 0, [150]), (0, 0, 7, []), (0, -1, 23, [])], some (0, -1, 23, []), false, 9, 0, 0, [], [], (5708990770823839524233143877797980545530986496, [(13, 8), (13, 9), (13, 11), (13, 12), (13, 13), (13, 14), (13, 15)], [(20, [0, 0], [30, 0, 1, 1, 15, -1, 1, 11]), (20, [0], [50, 3, 0, 12, 11, 15, 2, 21, 4, 7, 1, 3, 2, 0, 12, 0, 1, 0, 3, 2, 0, 11, 4, 3, 2, 0, 15, 0, 8, 3, 7, 1, 3, 2, 0, 12, 0, 0, 0, 7, 4, 3, 2, 0, 15, 0, 1, 2, 0, 11]), (20, [3, 0], [30, 0, 1, 0, 0, -1, 1, 11]), (20, [0, 4], [50, 2, 0, 12, 11, 3, 7, 1, 3, 2, 0, 12, 0, 0, 0, 6, 4, 2, 1, 1, 0, 1, 2, 0, 11]), (20, [1, 0], [50, 1, 1, 1005, 1002, 0, 6, 4, 2, 1, 0, 0, 1, 3, 1, 2, 4, 3, 2, 1, 5, 0, 2])], [(20, [0, 0], [30, 0, 1, 1, 15, -1, 1, 11]), (20, [0], [50, 3, 0, 12, 11, 15, 2, 21, 4, 7, 1, 3, 2, 0, 12, 0, 1, 0, 3, 2, 0, 11, 4, 3, 2, 0, 15, 0, 8, 3, 7, 1, 3, 2, 0, 12, 0, 0, 0, 7, 4, 3, 2, 0, 15, 0, 1, 2, 0, 11]), (20, [3, 0], [30, 0, 1, 0, 0, -1, 1, 11]), (20, [0, 3], [50, 3, 0, 8, 12, 11, 3, 7, 0, 2, 0, 1, 2, 0, 8, 3, 7, 1, 3, 2, 0, 12, 0, 0, 0, 6, 4, 2, 1, 1, 0, 1, 2, 0, 11]), (20, [0, 4], [50, 2, 0, 8, 11, 3, 7, 0, 2, 0, 1, 2, 0, 8, 0, 6, 4, 2, 1, 1, 0, 1, 2, 0, 11]), (20, [0, 5], [31, 1, -1, -1, 1, 8, 0, -1, 0, 0]), (20, [0, 2], [50, 2, 1, 8, 5, 2, 3, 7, 0, 2, 0, 1, 2, 0, 8, 3, 6, 0, 2, 1, 1, 0, -1, 0, 10, 3, 0, 2, 4, 3, 2, 0, 5, 0, 1, 0, 47]), (20, [1, 0], [50, 1, 1, 1005, 1002, 0, 6, 4, 2, 1, 0, 0, 1, 3, 1, 2, 4, 3, 2, 1, 5, 0, 2])], [(0, 0, 2000, []), (0, 0, 2000, [])]))
abbrev b_Mo_prepare : ByteArray := prog_15_method_218_code
def y_Mo_prepare : MethodName := ⟨"DrawingHouseModel", "prepare", "()V"⟩
abbrev z_Mo_prepare : List Cond := Cond.code y_Mo_prepare b_Mo_prepare 3 none :: lw_g
def e_Mo_prepare : en_T := ([(2, 0, 0, [150])], none, false, 10, 0, 0, [], [], (103749711956636890783894630927420297575728109019297781495072565445069373104455680, [(13, 31), (13, 32), (13, 99)], [], [], []))
abbrev b_Ho_judge : ByteArray := prog_1_method_23_code
def y_Ho_judge : MethodName := ⟨"DrawingHouse", "judge", "(II)J"⟩
abbrev z_Ho_judge : List Cond := Cond.code y_Ho_judge b_Ho_judge 3 (some .long) :: lw_g
def e_Ho_judge : en_T := ([(2, 0, 0, [12]), (0, -2147483648, 2147483647, []), (0, -2147483648, 2147483647, [])], some (1, -9223372036854775808, 9223372036854775807, []), false, 12, 0, 0, [], [], (0, [(0, 17), (0, 18), (0, 19), (0, 20)], [], [], []))
abbrev b_Fa_learn : ByteArray := prog_4_method_2_code
def y_Fa_learn : MethodName := ⟨"DrawingHouse$Facts", "learn", "(LDrawingHouse$Graph;)V"⟩
abbrev z_Fa_learn : List Cond := Cond.code y_Fa_learn b_Fa_learn 2 none :: lw_g
def e_Fa_learn : en_T := ([(2, 0, 0, [2]), (2, 0, 0, [3])], none, false, 11, 0, 0, [], [], (281337604866048, [(2, 0), (2, 1), (2, 2), (2, 3)], [], [], []))
abbrev b_Ho_learned : ByteArray := prog_1_method_33_code
def y_Ho_learned : MethodName := ⟨"DrawingHouse", "learned", "(I)LDrawingHouse$Facts;"⟩
abbrev z_Ho_learned : List Cond := Cond.code y_Ho_learned b_Ho_learned 2 (some (.object "DrawingHouse$Facts")) :: lw_g
def e_Ho_learned : en_T := ([(2, 0, 0, [12]), (0, 0, 3, [])], some (2, 0, 0, [2]), false, 12, 0, 0, [], [], (281337604866048, [(2, 0), (2, 1), (2, 2), (2, 3)], [], [], []))
abbrev b_Re_readEdges : ByteArray := prog_10_method_16_code
def y_Re_readEdges : MethodName := ⟨"DrawingHouse$Reader", "readEdges", "()Z"⟩
abbrev z_Re_readEdges : List Cond := Cond.code y_Re_readEdges b_Re_readEdges 6 (some .boolean) :: lw_g
def e_Re_readEdges : en_T := ([(2, 0, 0, [8])], some (0, 0, 1, []), false, 10, 0, 0, [], [], (1801158375971487744, [(3, 0), (3, 1), (8, 2), (8, 3), (8, 6), (8, 7), (8, 8), (8, 9)], [(20, [0, 0], [30, 8, 1, 1, 6, -1, 1, 8]), (20, [0, 0], [30, 0, -1, 1, 6, 1, 1, 8])], [], []))
abbrev b_Sy_compileProduct_at_k0 : ByteArray := prog_13_method_16_code
def y_Sy_compileProduct_at_k0 : MethodName := ⟨"DrawingHouse$Styler", "compileProduct", "(I)Z"⟩
abbrev z_Sy_compileProduct_at_k0 : List Cond := Cond.code y_Sy_compileProduct_at_k0 b_Sy_compileProduct_at_k0 4 (some .boolean) :: lw_g
def e_Sy_compileProduct_at_k0 : en_T := ([(2, 0, 0, [11]), (0, 0, 0, [])], some (0, 0, 1, []), false, 45, 0, 0, [], [((0, 3), (2, 0, 0, [109]))], (85070591730234615865843651857942052864, [(11, 1), (11, 2), (11, 5), (11, 6), (11, 7), (11, 8), (11, 11)], [], [], []))
abbrev b_Sy_compileProduct_at_k1 : ByteArray := prog_13_method_16_code
def y_Sy_compileProduct_at_k1 : MethodName := ⟨"DrawingHouse$Styler", "compileProduct", "(I)Z"⟩
abbrev z_Sy_compileProduct_at_k1 : List Cond := Cond.code y_Sy_compileProduct_at_k1 b_Sy_compileProduct_at_k1 4 (some .boolean) :: lw_g
def e_Sy_compileProduct_at_k1 : en_T := ([(2, 0, 0, [11]), (0, 1, 1, [])], some (0, 0, 1, []), false, 42, 0, 0, [], [((0, 3), (2, 0, 0, [109]))], (85070591730234615865843651857942052864, [(11, 1), (11, 2), (11, 5), (11, 6), (11, 7), (11, 8), (11, 11)], [], [], []))
abbrev b_Sy_compileProduct_at_k10 : ByteArray := prog_13_method_16_code
def y_Sy_compileProduct_at_k10 : MethodName := ⟨"DrawingHouse$Styler", "compileProduct", "(I)Z"⟩
abbrev z_Sy_compileProduct_at_k10 : List Cond := Cond.code y_Sy_compileProduct_at_k10 b_Sy_compileProduct_at_k10 4 (some .boolean) :: lw_g
def e_Sy_compileProduct_at_k10 : en_T := ([(2, 0, 0, [11]), (0, 10, 10, [])], some (0, 0, 1, []), false, 15, 0, 0, [], [((0, 3), (2, 0, 0, [109]))], (85070591730234615865843651857942052864, [(11, 1), (11, 2), (11, 5), (11, 6), (11, 7), (11, 8), (11, 11)], [], [], []))
abbrev b_Sy_compileProduct_at_k11 : ByteArray := prog_13_method_16_code
def y_Sy_compileProduct_at_k11 : MethodName := ⟨"DrawingHouse$Styler", "compileProduct", "(I)Z"⟩
abbrev z_Sy_compileProduct_at_k11 : List Cond := Cond.code y_Sy_compileProduct_at_k11 b_Sy_compileProduct_at_k11 4 (some .boolean) :: lw_g
def e_Sy_compileProduct_at_k11 : en_T := ([(2, 0, 0, [11]), (0, 11, 11, [])], some (0, 0, 1, []), false, 12, 0, 0, [], [((0, 3), (2, 0, 0, [109]))], (85070591730234615865843651857942052864, [(11, 1), (11, 2), (11, 5), (11, 6), (11, 7), (11, 8), (11, 11)], [], [], []))
abbrev b_Sy_compileProduct_at_k12 : ByteArray := prog_13_method_16_code
def y_Sy_compileProduct_at_k12 : MethodName := ⟨"DrawingHouse$Styler", "compileProduct", "(I)Z"⟩
abbrev z_Sy_compileProduct_at_k12 : List Cond := Cond.code y_Sy_compileProduct_at_k12 b_Sy_compileProduct_at_k12 4 (some .boolean) :: lw_g
def e_Sy_compileProduct_at_k12 : en_T := ([(2, 0, 0, [11]), (0, 12, 12, [])], some (0, 0, 1, []), false, 9, 0, 0, [], [((0, 3), (2, 0, 0, [109]))], (85070591730234615865843651857942052864, [(11, 1), (11, 2), (11, 5), (11, 6), (11, 7), (11, 8), (11, 11)], [], [], []))
abbrev b_Sy_compileProduct_at_k2 : ByteArray := prog_13_method_16_code
def y_Sy_compileProduct_at_k2 : MethodName := ⟨"DrawingHouse$Styler", "compileProduct", "(I)Z"⟩
abbrev z_Sy_compileProduct_at_k2 : List Cond := Cond.code y_Sy_compileProduct_at_k2 b_Sy_compileProduct_at_k2 4 (some .boolean) :: lw_g
def e_Sy_compileProduct_at_k2 : en_T := ([(2, 0, 0, [11]), (0, 2, 2, [])], some (0, 0, 1, []), false, 39, 0, 0, [], [((0, 3), (2, 0, 0, [109]))], (85070591730234615865843651857942052864, [(11, 1), (11, 2), (11, 5), (11, 6), (11, 7), (11, 8), (11, 11)], [], [], []))
abbrev b_Sy_compileProduct_at_k3 : ByteArray := prog_13_method_16_code
def y_Sy_compileProduct_at_k3 : MethodName := ⟨"DrawingHouse$Styler", "compileProduct", "(I)Z"⟩
abbrev z_Sy_compileProduct_at_k3 : List Cond := Cond.code y_Sy_compileProduct_at_k3 b_Sy_compileProduct_at_k3 4 (some .boolean) :: lw_g
def e_Sy_compileProduct_at_k3 : en_T := ([(2, 0, 0, [11]), (0, 3, 3, [])], some (0, 0, 1, []), false, 36, 0, 0, [], [((0, 3), (2, 0, 0, [109]))], (85070591730234615865843651857942052864, [(11, 1), (11, 2), (11, 5), (11, 6), (11, 7), (11, 8), (11, 11)], [], [], []))
abbrev b_Sy_compileProduct_at_k4 : ByteArray := prog_13_method_16_code
def y_Sy_compileProduct_at_k4 : MethodName := ⟨"DrawingHouse$Styler", "compileProduct", "(I)Z"⟩
abbrev z_Sy_compileProduct_at_k4 : List Cond := Cond.code y_Sy_compileProduct_at_k4 b_Sy_compileProduct_at_k4 4 (some .boolean) :: lw_g
def e_Sy_compileProduct_at_k4 : en_T := ([(2, 0, 0, [11]), (0, 4, 4, [])], some (0, 0, 1, []), false, 33, 0, 0, [], [((0, 3), (2, 0, 0, [109]))], (85070591730234615865843651857942052864, [(11, 1), (11, 2), (11, 5), (11, 6), (11, 7), (11, 8), (11, 11)], [], [], []))
abbrev b_Sy_compileProduct_at_k5 : ByteArray := prog_13_method_16_code
def y_Sy_compileProduct_at_k5 : MethodName := ⟨"DrawingHouse$Styler", "compileProduct", "(I)Z"⟩
abbrev z_Sy_compileProduct_at_k5 : List Cond := Cond.code y_Sy_compileProduct_at_k5 b_Sy_compileProduct_at_k5 4 (some .boolean) :: lw_g
def e_Sy_compileProduct_at_k5 : en_T := ([(2, 0, 0, [11]), (0, 5, 5, [])], some (0, 0, 1, []), false, 30, 0, 0, [], [((0, 3), (2, 0, 0, [109]))], (85070591730234615865843651857942052864, [(11, 1), (11, 2), (11, 5), (11, 6), (11, 7), (11, 8), (11, 11)], [], [], []))
abbrev b_Sy_compileProduct_at_k6 : ByteArray := prog_13_method_16_code
def y_Sy_compileProduct_at_k6 : MethodName := ⟨"DrawingHouse$Styler", "compileProduct", "(I)Z"⟩
abbrev z_Sy_compileProduct_at_k6 : List Cond := Cond.code y_Sy_compileProduct_at_k6 b_Sy_compileProduct_at_k6 4 (some .boolean) :: lw_g
def e_Sy_compileProduct_at_k6 : en_T := ([(2, 0, 0, [11]), (0, 6, 6, [])], some (0, 0, 1, []), false, 27, 0, 0, [], [((0, 3), (2, 0, 0, [109]))], (85070591730234615865843651857942052864, [(11, 1), (11, 2), (11, 5), (11, 6), (11, 7), (11, 8), (11, 11)], [], [], []))
abbrev b_Sy_compileProduct_at_k7 : ByteArray := prog_13_method_16_code
def y_Sy_compileProduct_at_k7 : MethodName := ⟨"DrawingHouse$Styler", "compileProduct", "(I)Z"⟩
abbrev z_Sy_compileProduct_at_k7 : List Cond := Cond.code y_Sy_compileProduct_at_k7 b_Sy_compileProduct_at_k7 4 (some .boolean) :: lw_g
def e_Sy_compileProduct_at_k7 : en_T := ([(2, 0, 0, [11]), (0, 7, 7, [])], some (0, 0, 1, []), false, 24, 0, 0, [], [((0, 3), (2, 0, 0, [109]))], (85070591730234615865843651857942052864, [(11, 1), (11, 2), (11, 5), (11, 6), (11, 7), (11, 8), (11, 11)], [], [], []))
abbrev b_Sy_compileProduct_at_k8 : ByteArray := prog_13_method_16_code
def y_Sy_compileProduct_at_k8 : MethodName := ⟨"DrawingHouse$Styler", "compileProduct", "(I)Z"⟩
abbrev z_Sy_compileProduct_at_k8 : List Cond := Cond.code y_Sy_compileProduct_at_k8 b_Sy_compileProduct_at_k8 4 (some .boolean) :: lw_g
def e_Sy_compileProduct_at_k8 : en_T := ([(2, 0, 0, [11]), (0, 8, 8, [])], some (0, 0, 1, []), false, 21, 0, 0, [], [((0, 3), (2, 0, 0, [109]))], (85070591730234615865843651857942052864, [(11, 1), (11, 2), (11, 5), (11, 6), (11, 7), (11, 8), (11, 11)], [], [], []))
abbrev b_Sy_compileProduct_at_k9 : ByteArray := prog_13_method_16_code
def y_Sy_compileProduct_at_k9 : MethodName := ⟨"DrawingHouse$Styler", "compileProduct", "(I)Z"⟩
abbrev z_Sy_compileProduct_at_k9 : List Cond := Cond.code y_Sy_compileProduct_at_k9 b_Sy_compileProduct_at_k9 4 (some .boolean) :: lw_g
def e_Sy_compileProduct_at_k9 : en_T := ([(2, 0, 0, [11]), (0, 9, 9, [])], some (0, 0, 1, []), false, 18, 0, 0, [], [((0, 3), (2, 0, 0, [109]))], (85070591730234615865843651857942052864, [(11, 1), (11, 2), (11, 5), (11, 6), (11, 7), (11, 8), (11, 11)], [], [], []))
abbrev b_Sy_compileSetting : ByteArray := prog_13_method_10_code
def y_Sy_compileSetting : MethodName := ⟨"DrawingHouse$Styler", "compileSetting", "()Z"⟩
abbrev z_Sy_compileSetting : List Cond := Cond.code y_Sy_compileSetting b_Sy_compileSetting 2 (some .boolean) :: lw_g
def e_Sy_compileSetting : en_T := ([(2, 0, 0, [11])], some (0, 0, 1, []), false, 47, 0, 0, [([(2, 0, 0, [11]), (2, 0, 0, [109]), (0, 1, 1, [])], [], [2], [((0, 3), 1)], [], []), ([(2, 0, 0, [11]), (2, 0, 0, [109]), (0, 0, 0, [])], [], [2], [((0, 3), 1)], [], [])], [((0, 3), (2, 0, 0, [109]))], (85070591730234615865843651857942052864, [(11, 1), (11, 2), (11, 5), (11, 6), (11, 7), (11, 8), (11, 11)], [], [], []))
abbrev b_Sy_compileSum_at_k0 : ByteArray := prog_13_method_15_code
def y_Sy_compileSum_at_k0 : MethodName := ⟨"DrawingHouse$Styler", "compileSum", "(I)Z"⟩
abbrev z_Sy_compileSum_at_k0 : List Cond := Cond.code y_Sy_compileSum_at_k0 b_Sy_compileSum_at_k0 4 (some .boolean) :: lw_g
def e_Sy_compileSum_at_k0 : en_T := ([(2, 0, 0, [11]), (0, 0, 0, [])], some (0, 0, 1, []), false, 46, 0, 0, [], [((0, 3), (2, 0, 0, [109]))], (85070591730234615865843651857942052864, [(11, 1), (11, 2), (11, 5), (11, 6), (11, 7), (11, 8), (11, 11)], [], [], []))
abbrev b_Sy_compileSum_at_k1 : ByteArray := prog_13_method_15_code
def y_Sy_compileSum_at_k1 : MethodName := ⟨"DrawingHouse$Styler", "compileSum", "(I)Z"⟩
abbrev z_Sy_compileSum_at_k1 : List Cond := Cond.code y_Sy_compileSum_at_k1 b_Sy_compileSum_at_k1 4 (some .boolean) :: lw_g
def e_Sy_compileSum_at_k1 : en_T := ([(2, 0, 0, [11]), (0, 1, 1, [])], some (0, 0, 1, []), false, 43, 0, 0, [], [((0, 3), (2, 0, 0, [109]))], (85070591730234615865843651857942052864, [(11, 1), (11, 2), (11, 5), (11, 6), (11, 7), (11, 8), (11, 11)], [], [], []))
abbrev b_Sy_compileSum_at_k10 : ByteArray := prog_13_method_15_code
def y_Sy_compileSum_at_k10 : MethodName := ⟨"DrawingHouse$Styler", "compileSum", "(I)Z"⟩
abbrev z_Sy_compileSum_at_k10 : List Cond := Cond.code y_Sy_compileSum_at_k10 b_Sy_compileSum_at_k10 4 (some .boolean) :: lw_g
def e_Sy_compileSum_at_k10 : en_T := ([(2, 0, 0, [11]), (0, 10, 10, [])], some (0, 0, 1, []), false, 16, 0, 0, [], [((0, 3), (2, 0, 0, [109]))], (85070591730234615865843651857942052864, [(11, 1), (11, 2), (11, 5), (11, 6), (11, 7), (11, 8), (11, 11)], [], [], []))
abbrev b_Sy_compileSum_at_k11 : ByteArray := prog_13_method_15_code
def y_Sy_compileSum_at_k11 : MethodName := ⟨"DrawingHouse$Styler", "compileSum", "(I)Z"⟩
abbrev z_Sy_compileSum_at_k11 : List Cond := Cond.code y_Sy_compileSum_at_k11 b_Sy_compileSum_at_k11 4 (some .boolean) :: lw_g
def e_Sy_compileSum_at_k11 : en_T := ([(2, 0, 0, [11]), (0, 11, 11, [])], some (0, 0, 1, []), false, 13, 0, 0, [], [((0, 3), (2, 0, 0, [109]))], (85070591730234615865843651857942052864, [(11, 1), (11, 2), (11, 5), (11, 6), (11, 7), (11, 8), (11, 11)], [], [], []))
abbrev b_Sy_compileSum_at_k12 : ByteArray := prog_13_method_15_code
def y_Sy_compileSum_at_k12 : MethodName := ⟨"DrawingHouse$Styler", "compileSum", "(I)Z"⟩
abbrev z_Sy_compileSum_at_k12 : List Cond := Cond.code y_Sy_compileSum_at_k12 b_Sy_compileSum_at_k12 4 (some .boolean) :: lw_g
def e_Sy_compileSum_at_k12 : en_T := ([(2, 0, 0, [11]), (0, 12, 12, [])], some (0, 0, 1, []), false, 10, 0, 0, [], [((0, 3), (2, 0, 0, [109]))], (85070591730234615865843651857942052864, [(11, 1), (11, 2), (11, 5), (11, 6), (11, 7), (11, 8), (11, 11)], [], [], []))
abbrev b_Sy_compileSum_at_k2 : ByteArray := prog_13_method_15_code
def y_Sy_compileSum_at_k2 : MethodName := ⟨"DrawingHouse$Styler", "compileSum", "(I)Z"⟩
abbrev z_Sy_compileSum_at_k2 : List Cond := Cond.code y_Sy_compileSum_at_k2 b_Sy_compileSum_at_k2 4 (some .boolean) :: lw_g
def e_Sy_compileSum_at_k2 : en_T := ([(2, 0, 0, [11]), (0, 2, 2, [])], some (0, 0, 1, []), false, 40, 0, 0, [], [((0, 3), (2, 0, 0, [109]))], (85070591730234615865843651857942052864, [(11, 1), (11, 2), (11, 5), (11, 6), (11, 7), (11, 8), (11, 11)], [], [], []))
abbrev b_Sy_compileSum_at_k3 : ByteArray := prog_13_method_15_code
def y_Sy_compileSum_at_k3 : MethodName := ⟨"DrawingHouse$Styler", "compileSum", "(I)Z"⟩
abbrev z_Sy_compileSum_at_k3 : List Cond := Cond.code y_Sy_compileSum_at_k3 b_Sy_compileSum_at_k3 4 (some .boolean) :: lw_g
def e_Sy_compileSum_at_k3 : en_T := ([(2, 0, 0, [11]), (0, 3, 3, [])], some (0, 0, 1, []), false, 37, 0, 0, [], [((0, 3), (2, 0, 0, [109]))], (85070591730234615865843651857942052864, [(11, 1), (11, 2), (11, 5), (11, 6), (11, 7), (11, 8), (11, 11)], [], [], []))
abbrev b_Sy_compileSum_at_k4 : ByteArray := prog_13_method_15_code
def y_Sy_compileSum_at_k4 : MethodName := ⟨"DrawingHouse$Styler", "compileSum", "(I)Z"⟩
abbrev z_Sy_compileSum_at_k4 : List Cond := Cond.code y_Sy_compileSum_at_k4 b_Sy_compileSum_at_k4 4 (some .boolean) :: lw_g
def e_Sy_compileSum_at_k4 : en_T := ([(2, 0, 0, [11]), (0, 4, 4, [])], some (0, 0, 1, []), false, 34, 0, 0, [], [((0, 3), (2, 0, 0, [109]))], (85070591730234615865843651857942052864, [(11, 1), (11, 2), (11, 5), (11, 6), (11, 7), (11, 8), (11, 11)], [], [], []))
abbrev b_Sy_compileSum_at_k5 : ByteArray := prog_13_method_15_code
def y_Sy_compileSum_at_k5 : MethodName := ⟨"DrawingHouse$Styler", "compileSum", "(I)Z"⟩
abbrev z_Sy_compileSum_at_k5 : List Cond := Cond.code y_Sy_compileSum_at_k5 b_Sy_compileSum_at_k5 4 (some .boolean) :: lw_g
def e_Sy_compileSum_at_k5 : en_T := ([(2, 0, 0, [11]), (0, 5, 5, [])], some (0, 0, 1, []), false, 31, 0, 0, [], [((0, 3), (2, 0, 0, [109]))], (85070591730234615865843651857942052864, [(11, 1), (11, 2), (11, 5), (11, 6), (11, 7), (11, 8), (11, 11)], [], [], []))
abbrev b_Sy_compileSum_at_k6 : ByteArray := prog_13_method_15_code
def y_Sy_compileSum_at_k6 : MethodName := ⟨"DrawingHouse$Styler", "compileSum", "(I)Z"⟩
abbrev z_Sy_compileSum_at_k6 : List Cond := Cond.code y_Sy_compileSum_at_k6 b_Sy_compileSum_at_k6 4 (some .boolean) :: lw_g
def e_Sy_compileSum_at_k6 : en_T := ([(2, 0, 0, [11]), (0, 6, 6, [])], some (0, 0, 1, []), false, 28, 0, 0, [], [((0, 3), (2, 0, 0, [109]))], (85070591730234615865843651857942052864, [(11, 1), (11, 2), (11, 5), (11, 6), (11, 7), (11, 8), (11, 11)], [], [], []))
abbrev b_Sy_compileSum_at_k7 : ByteArray := prog_13_method_15_code
def y_Sy_compileSum_at_k7 : MethodName := ⟨"DrawingHouse$Styler", "compileSum", "(I)Z"⟩
abbrev z_Sy_compileSum_at_k7 : List Cond := Cond.code y_Sy_compileSum_at_k7 b_Sy_compileSum_at_k7 4 (some .boolean) :: lw_g
def e_Sy_compileSum_at_k7 : en_T := ([(2, 0, 0, [11]), (0, 7, 7, [])], some (0, 0, 1, []), false, 25, 0, 0, [], [((0, 3), (2, 0, 0, [109]))], (85070591730234615865843651857942052864, [(11, 1), (11, 2), (11, 5), (11, 6), (11, 7), (11, 8), (11, 11)], [], [], []))
abbrev b_Sy_compileSum_at_k8 : ByteArray := prog_13_method_15_code
def y_Sy_compileSum_at_k8 : MethodName := ⟨"DrawingHouse$Styler", "compileSum", "(I)Z"⟩
abbrev z_Sy_compileSum_at_k8 : List Cond := Cond.code y_Sy_compileSum_at_k8 b_Sy_compileSum_at_k8 4 (some .boolean) :: lw_g
def e_Sy_compileSum_at_k8 : en_T := ([(2, 0, 0, [11]), (0, 8, 8, [])], some (0, 0, 1, []), false, 22, 0, 0, [], [((0, 3), (2, 0, 0, [109]))], (85070591730234615865843651857942052864, [(11, 1), (11, 2), (11, 5), (11, 6), (11, 7), (11, 8), (11, 11)], [], [], []))
abbrev b_Sy_compileSum_at_k9 : ByteArray := prog_13_method_15_code
def y_Sy_compileSum_at_k9 : MethodName := ⟨"DrawingHouse$Styler", "compileSum", "(I)Z"⟩
abbrev z_Sy_compileSum_at_k9 : List Cond := Cond.code y_Sy_compileSum_at_k9 b_Sy_compileSum_at_k9 4 (some .boolean) :: lw_g
def e_Sy_compileSum_at_k9 : en_T := ([(2, 0, 0, [11]), (0, 9, 9, [])], some (0, 0, 1, []), false, 19, 0, 0, [], [((0, 3), (2, 0, 0, [109]))], (85070591730234615865843651857942052864, [(11, 1), (11, 2), (11, 5), (11, 6), (11, 7), (11, 8), (11, 11)], [], [], []))
abbrev b_Sy_compileValue_at_k0 : ByteArray := prog_13_method_17_code
def y_Sy_compileValue_at_k0 : MethodName := ⟨"DrawingHouse$Styler", "compileValue", "(I)Z"⟩
abbrev z_Sy_compileValue_at_k0 : List Cond := Cond.code y_Sy_compileValue_at_k0 b_Sy_compileValue_at_k0 3 (some .boolean) :: lw_g
def e_Sy_compileValue_at_k0 : en_T := ([(2, 0, 0, [11]), (0, 0, 0, [])], some (0, 0, 1, []), false, 44, 0, 0, [([(2, 0, 0, [11]), (0, 0, 0, []), (2, 0, 0, [109]), (0, 1, 1, [])], [], [3], [((0, 3), 2)], [], []), ([(2, 0, 0, [11]), (0, 0, 0, []), (2, 0, 0, [109]), (0, 0, 0, [])], [], [3], [((0, 3), 2)], [], [])], [((0, 3), (2, 0, 0, [109]))], (85070591730234615865843651857942052864, [(11, 1), (11, 2), (11, 5), (11, 6), (11, 7), (11, 8), (11, 11)], [], [], []))
abbrev b_Sy_compileValue_at_k1 : ByteArray := prog_13_method_17_code
def y_Sy_compileValue_at_k1 : MethodName := ⟨"DrawingHouse$Styler", "compileValue", "(I)Z"⟩
abbrev z_Sy_compileValue_at_k1 : List Cond := Cond.code y_Sy_compileValue_at_k1 b_Sy_compileValue_at_k1 3 (some .boolean) :: lw_g
def e_Sy_compileValue_at_k1 : en_T := ([(2, 0, 0, [11]), (0, 1, 1, [])], some (0, 0, 1, []), false, 41, 0, 0, [([(2, 0, 0, [11]), (0, 1, 1, []), (2, 0, 0, [109]), (0, 1, 1, [])], [], [3], [((0, 3), 2)], [], []), ([(2, 0, 0, [11]), (0, 1, 1, []), (2, 0, 0, [109]), (0, 0, 0, [])], [], [3], [((0, 3), 2)], [], [])], [((0, 3), (2, 0, 0, [109]))], (85070591730234615865843651857942052864, [(11, 1), (11, 2), (11, 5), (11, 6), (11, 7), (11, 8), (11, 11)], [], [], []))
abbrev b_Sy_compileValue_at_k10 : ByteArray := prog_13_method_17_code
def y_Sy_compileValue_at_k10 : MethodName := ⟨"DrawingHouse$Styler", "compileValue", "(I)Z"⟩
abbrev z_Sy_compileValue_at_k10 : List Cond := Cond.code y_Sy_compileValue_at_k10 b_Sy_compileValue_at_k10 3 (some .boolean) :: lw_g
def e_Sy_compileValue_at_k10 : en_T := ([(2, 0, 0, [11]), (0, 10, 10, [])], some (0, 0, 1, []), false, 14, 0, 0, [([(2, 0, 0, [11]), (0, 10, 10, []), (2, 0, 0, [109]), (0, 1, 1, [])], [], [3], [((0, 3), 2)], [], []), ([(2, 0, 0, [11]), (0, 10, 10, []), (2, 0, 0, [109]), (0, 0, 0, [])], [], [3], [((0, 3), 2)], [], [])], [((0, 3), (2, 0, 0, [109]))], (85070591730234615865843651857942052864, [(11, 1), (11, 2), (11, 5), (11, 6), (11, 7), (11, 8), (11, 11)], [], [], []))
abbrev b_Sy_compileValue_at_k11 : ByteArray := prog_13_method_17_code
def y_Sy_compileValue_at_k11 : MethodName := ⟨"DrawingHouse$Styler", "compileValue", "(I)Z"⟩
abbrev z_Sy_compileValue_at_k11 : List Cond := Cond.code y_Sy_compileValue_at_k11 b_Sy_compileValue_at_k11 3 (some .boolean) :: lw_g
def e_Sy_compileValue_at_k11 : en_T := ([(2, 0, 0, [11]), (0, 11, 11, [])], some (0, 0, 1, []), false, 11, 0, 0, [([(2, 0, 0, [11]), (0, 11, 11, []), (2, 0, 0, [109]), (0, 1, 1, [])], [], [3], [((0, 3), 2)], [], []), ([(2, 0, 0, [11]), (0, 11, 11, []), (2, 0, 0, [109]), (0, 0, 0, [])], [], [3], [((0, 3), 2)], [], [])], [((0, 3), (2, 0, 0, [109]))], (85070591730234615865843651857942052864, [(11, 1), (11, 2), (11, 5), (11, 6), (11, 7), (11, 8), (11, 11)], [], [], []))
abbrev b_Sy_compileValue_at_k12 : ByteArray := prog_13_method_17_code
def y_Sy_compileValue_at_k12 : MethodName := ⟨"DrawingHouse$Styler", "compileValue", "(I)Z"⟩
abbrev z_Sy_compileValue_at_k12 : List Cond := Cond.code y_Sy_compileValue_at_k12 b_Sy_compileValue_at_k12 3 (some .boolean) :: lw_g
def e_Sy_compileValue_at_k12 : en_T := ([(2, 0, 0, [11]), (0, 12, 12, [])], some (0, 0, 1, []), false, 8, 0, 0, [([(2, 0, 0, [11]), (0, 12, 12, []), (2, 0, 0, [109]), (0, 1, 1, [])], [], [3], [((0, 3), 2)], [], []), ([(2, 0, 0, [11]), (0, 12, 12, []), (2, 0, 0, [109]), (0, 0, 0, [])], [], [3], [((0, 3), 2)], [], [])], [((0, 3), (2, 0, 0, [109]))], (85070591730234615865843651857942052864, [(11, 1), (11, 2), (11, 5), (11, 6), (11, 7), (11, 8), (11, 11)], [], [], []))
abbrev b_Sy_compileValue_at_k2 : ByteArray := prog_13_method_17_code
def y_Sy_compileValue_at_k2 : MethodName := ⟨"DrawingHouse$Styler", "compileValue", "(I)Z"⟩
abbrev z_Sy_compileValue_at_k2 : List Cond := Cond.code y_Sy_compileValue_at_k2 b_Sy_compileValue_at_k2 3 (some .boolean) :: lw_g
def e_Sy_compileValue_at_k2 : en_T := ([(2, 0, 0, [11]), (0, 2, 2, [])], some (0, 0, 1, []), false, 38, 0, 0, [([(2, 0, 0, [11]), (0, 2, 2, []), (2, 0, 0, [109]), (0, 1, 1, [])], [], [3], [((0, 3), 2)], [], []), ([(2, 0, 0, [11]), (0, 2, 2, []), (2, 0, 0, [109]), (0, 0, 0, [])], [], [3], [((0, 3), 2)], [], [])], [((0, 3), (2, 0, 0, [109]))], (85070591730234615865843651857942052864, [(11, 1), (11, 2), (11, 5), (11, 6), (11, 7), (11, 8), (11, 11)], [], [], []))
abbrev b_Sy_compileValue_at_k3 : ByteArray := prog_13_method_17_code
def y_Sy_compileValue_at_k3 : MethodName := ⟨"DrawingHouse$Styler", "compileValue", "(I)Z"⟩
abbrev z_Sy_compileValue_at_k3 : List Cond := Cond.code y_Sy_compileValue_at_k3 b_Sy_compileValue_at_k3 3 (some .boolean) :: lw_g
def e_Sy_compileValue_at_k3 : en_T := ([(2, 0, 0, [11]), (0, 3, 3, [])], some (0, 0, 1, []), false, 35, 0, 0, [([(2, 0, 0, [11]), (0, 3, 3, []), (2, 0, 0, [109]), (0, 1, 1, [])], [], [3], [((0, 3), 2)], [], []), ([(2, 0, 0, [11]), (0, 3, 3, []), (2, 0, 0, [109]), (0, 0, 0, [])], [], [3], [((0, 3), 2)], [], [])], [((0, 3), (2, 0, 0, [109]))], (85070591730234615865843651857942052864, [(11, 1), (11, 2), (11, 5), (11, 6), (11, 7), (11, 8), (11, 11)], [], [], []))
abbrev b_Sy_compileValue_at_k4 : ByteArray := prog_13_method_17_code
def y_Sy_compileValue_at_k4 : MethodName := ⟨"DrawingHouse$Styler", "compileValue", "(I)Z"⟩
abbrev z_Sy_compileValue_at_k4 : List Cond := Cond.code y_Sy_compileValue_at_k4 b_Sy_compileValue_at_k4 3 (some .boolean) :: lw_g
def e_Sy_compileValue_at_k4 : en_T := ([(2, 0, 0, [11]), (0, 4, 4, [])], some (0, 0, 1, []), false, 32, 0, 0, [([(2, 0, 0, [11]), (0, 4, 4, []), (2, 0, 0, [109]), (0, 1, 1, [])], [], [3], [((0, 3), 2)], [], []), ([(2, 0, 0, [11]), (0, 4, 4, []), (2, 0, 0, [109]), (0, 0, 0, [])], [], [3], [((0, 3), 2)], [], [])], [((0, 3), (2, 0, 0, [109]))], (85070591730234615865843651857942052864, [(11, 1), (11, 2), (11, 5), (11, 6), (11, 7), (11, 8), (11, 11)], [], [], []))
abbrev b_Sy_compileValue_at_k5 : ByteArray := prog_13_method_17_code
def y_Sy_compileValue_at_k5 : MethodName := ⟨"DrawingHouse$Styler", "compileValue", "(I)Z"⟩
abbrev z_Sy_compileValue_at_k5 : List Cond := Cond.code y_Sy_compileValue_at_k5 b_Sy_compileValue_at_k5 3 (some .boolean) :: lw_g
def e_Sy_compileValue_at_k5 : en_T := ([(2, 0, 0, [11]), (0, 5, 5, [])], some (0, 0, 1, []), false, 29, 0, 0, [([(2, 0, 0, [11]), (0, 5, 5, []), (2, 0, 0, [109]), (0, 1, 1, [])], [], [3], [((0, 3), 2)], [], []), ([(2, 0, 0, [11]), (0, 5, 5, []), (2, 0, 0, [109]), (0, 0, 0, [])], [], [3], [((0, 3), 2)], [], [])], [((0, 3), (2, 0, 0, [109]))], (85070591730234615865843651857942052864, [(11, 1), (11, 2), (11, 5), (11, 6), (11, 7), (11, 8), (11, 11)], [], [], []))
abbrev b_Sy_compileValue_at_k6 : ByteArray := prog_13_method_17_code
def y_Sy_compileValue_at_k6 : MethodName := ⟨"DrawingHouse$Styler", "compileValue", "(I)Z"⟩
abbrev z_Sy_compileValue_at_k6 : List Cond := Cond.code y_Sy_compileValue_at_k6 b_Sy_compileValue_at_k6 3 (some .boolean) :: lw_g
def e_Sy_compileValue_at_k6 : en_T := ([(2, 0, 0, [11]), (0, 6, 6, [])], some (0, 0, 1, []), false, 26, 0, 0, [([(2, 0, 0, [11]), (0, 6, 6, []), (2, 0, 0, [109]), (0, 1, 1, [])], [], [3], [((0, 3), 2)], [], []), ([(2, 0, 0, [11]), (0, 6, 6, []), (2, 0, 0, [109]), (0, 0, 0, [])], [], [3], [((0, 3), 2)], [], [])], [((0, 3), (2, 0, 0, [109]))], (85070591730234615865843651857942052864, [(11, 1), (11, 2), (11, 5), (11, 6), (11, 7), (11, 8), (11, 11)], [], [], []))
abbrev b_Sy_compileValue_at_k7 : ByteArray := prog_13_method_17_code
def y_Sy_compileValue_at_k7 : MethodName := ⟨"DrawingHouse$Styler", "compileValue", "(I)Z"⟩
abbrev z_Sy_compileValue_at_k7 : List Cond := Cond.code y_Sy_compileValue_at_k7 b_Sy_compileValue_at_k7 3 (some .boolean) :: lw_g
def e_Sy_compileValue_at_k7 : en_T := ([(2, 0, 0, [11]), (0, 7, 7, [])], some (0, 0, 1, []), false, 23, 0, 0, [([(2, 0, 0, [11]), (0, 7, 7, []), (2, 0, 0, [109]), (0, 1, 1, [])], [], [3], [((0, 3), 2)], [], []), ([(2, 0, 0, [11]), (0, 7, 7, []), (2, 0, 0, [109]), (0, 0, 0, [])], [], [3], [((0, 3), 2)], [], [])], [((0, 3), (2, 0, 0, [109]))], (85070591730234615865843651857942052864, [(11, 1), (11, 2), (11, 5), (11, 6), (11, 7), (11, 8), (11, 11)], [], [], []))
abbrev b_Sy_compileValue_at_k8 : ByteArray := prog_13_method_17_code
def y_Sy_compileValue_at_k8 : MethodName := ⟨"DrawingHouse$Styler", "compileValue", "(I)Z"⟩
abbrev z_Sy_compileValue_at_k8 : List Cond := Cond.code y_Sy_compileValue_at_k8 b_Sy_compileValue_at_k8 3 (some .boolean) :: lw_g
def e_Sy_compileValue_at_k8 : en_T := ([(2, 0, 0, [11]), (0, 8, 8, [])], some (0, 0, 1, []), false, 20, 0, 0, [([(2, 0, 0, [11]), (0, 8, 8, []), (2, 0, 0, [109]), (0, 1, 1, [])], [], [3], [((0, 3), 2)], [], []), ([(2, 0, 0, [11]), (0, 8, 8, []), (2, 0, 0, [109]), (0, 0, 0, [])], [], [3], [((0, 3), 2)], [], [])], [((0, 3), (2, 0, 0, [109]))], (85070591730234615865843651857942052864, [(11, 1), (11, 2), (11, 5), (11, 6), (11, 7), (11, 8), (11, 11)], [], [], []))
abbrev b_Sy_compileValue_at_k9 : ByteArray := prog_13_method_17_code
def y_Sy_compileValue_at_k9 : MethodName := ⟨"DrawingHouse$Styler", "compileValue", "(I)Z"⟩
abbrev z_Sy_compileValue_at_k9 : List Cond := Cond.code y_Sy_compileValue_at_k9 b_Sy_compileValue_at_k9 3 (some .boolean) :: lw_g
def e_Sy_compileValue_at_k9 : en_T := ([(2, 0, 0, [11]), (0, 9, 9, [])], some (0, 0, 1, []), false, 17, 0, 0, [([(2, 0, 0, [11]), (0, 9, 9, []), (2, 0, 0, [109]), (0, 1, 1, [])], [], [3], [((0, 3), 2)], [], []), ([(2, 0, 0, [11]), (0, 9, 9, []), (2, 0, 0, [109]), (0, 0, 0, [])], [], [3], [((0, 3), 2)], [], [])], [((0, 3), (2, 0, 0, [109]))], (85070591730234615865843651857942052864, [(11, 1), (11, 2), (11, 5), (11, 6), (11, 7), (11, 8), (11, 11)], [], [], []))
abbrev b_Mo_node : ByteArray := prog_15_method_99_code
def y_Mo_node : MethodName := ⟨"DrawingHouseModel", "node", "(III)I"⟩
abbrev z_Mo_node : List Cond := Cond.code y_Mo_node b_Mo_node 7 (some .int) :: lw_g
def e_Mo_node : en_T := ([(2, 0, 0, [150]), (0, -2147483648, 2147483647, []), (0, -2147483648, 2147483647, []), (0, -2147483648, 2147483647, [])], some (0, -2147483648, 2147483647, []), false, 10, 0, 0, [], [], (1835554712635280883831440419589606704999122778193920, [(13, 5), (13, 31), (13, 32)], [], [], []))
abbrev b_Em_embed : ByteArray := prog_3_method_5_code
def y_Em_embed : MethodName := ⟨"DrawingHouse$Embedder", "embed", "(LDrawingHouse$Net;)Z"⟩
abbrev z_Em_embed : List Cond := Cond.code y_Em_embed b_Em_embed 6 (some .boolean) :: lw_g
def e_Em_embed : en_T := ([(2, 0, 0, [1]), (2, 0, 0, [5, 149])], some (0, 0, 1, []), false, 9, 0, 0, [], [], (691323101154571012444856383003499372828688384, [(1, 0), (1, 5), (1, 6), (1, 7), (1, 15), (1, 16), (1, 17), (1, 18), (5, 13)], [], [], []))
abbrev b_Mo_bar : ByteArray := prog_15_method_93_code
def y_Mo_bar : MethodName := ⟨"DrawingHouseModel", "bar", "()V"⟩
abbrev z_Mo_bar : List Cond := Cond.code y_Mo_bar b_Mo_bar 5 none :: lw_g
def e_Mo_bar : en_T := ([(2, 0, 0, [150])], none, false, 12, 0, 0, [], [], (52104803265577168592556199384341302127798898277325209600, [(13, 31), (13, 32), (13, 39), (13, 45), (13, 49), (13, 58), (13, 59)], [], [], []))
abbrev b_Mo_isOuter : ByteArray := prog_15_method_92_code
def y_Mo_isOuter : MethodName := ⟨"DrawingHouseModel", "isOuter", "()Z"⟩
abbrev z_Mo_isOuter : List Cond := Cond.code y_Mo_isOuter b_Mo_isOuter 2 (some .boolean) :: lw_g
def e_Mo_isOuter : en_T := ([(2, 0, 0, [150])], some (0, 0, 1, []), false, 12, 0, 0, [], [], (3064945957868725125089094515531408251999246367449939968, [(13, 31), (13, 32), (13, 39), (13, 45), (13, 49)], [], [], []))
abbrev b_Mo_isPlanar : ByteArray := prog_15_method_91_code
def y_Mo_isPlanar : MethodName := ⟨"DrawingHouseModel", "isPlanar", "()Z"⟩
abbrev z_Mo_isPlanar : List Cond := Cond.code y_Mo_isPlanar b_Mo_isPlanar 1 (some .boolean) :: lw_g
def e_Mo_isPlanar : en_T := ([(2, 0, 0, [150])], some (0, 0, 1, []), false, 12, 0, 0, [], [], (3064945957868725125089094515531408251999246367449939968, [(13, 31), (13, 32), (13, 39), (13, 45), (13, 49)], [], [], []))
abbrev b_Ho_count : ByteArray := prog_1_method_5_code
def y_Ho_count : MethodName := ⟨"DrawingHouse", "count", "(II)I"⟩
abbrev z_Ho_count : List Cond := Cond.code y_Ho_count b_Ho_count 3 (some .int) :: lw_g
def e_Ho_count : en_T := ([(2, 0, 0, [12]), (0, -2147483648, 2147483647, []), (0, -2147483648, 2147483647, [])], some (0, -1, 48, []), false, 13, 0, 0, [], [], (281337604866048, [(2, 0), (2, 1), (2, 2), (2, 3)], [], [], []))
abbrev b_Ho_node : ByteArray := prog_1_method_6_code
def y_Ho_node : MethodName := ⟨"DrawingHouse", "node", "(III)I"⟩
abbrev z_Ho_node : List Cond := Cond.code y_Ho_node b_Ho_node 4 (some .int) :: lw_g
def e_Ho_node : en_T := ([(2, 0, 0, [12]), (0, -2147483648, 2147483647, []), (0, -2147483648, 2147483647, []), (0, -2147483648, 2147483647, [])], some (0, -1, 127, []), false, 13, 0, 0, [], [], (281337604866048, [(2, 0), (2, 1), (2, 2), (2, 3)], [], [], []))
abbrev b_Re_readItem : ByteArray := prog_10_method_12_code
def y_Re_readItem : MethodName := ⟨"DrawingHouse$Reader", "readItem", "()Z"⟩
abbrev z_Re_readItem : List Cond := Cond.code y_Re_readItem b_Re_readItem 1 (some .boolean) :: lw_g
def e_Re_readItem : en_T := ([(2, 0, 0, [8])], some (0, 0, 1, []), false, 11, 0, 0, [], [], (1298074214633709212694158319288320, [(3, 0), (3, 1), (3, 2), (8, 2), (8, 3), (8, 6), (8, 7), (8, 8), (8, 9), (8, 11)], [(20, [0, 0, 0, 0], [31, 1, -3, -1, 1, 7, 4008, 1, 1, 6, -1, 1, 8, 2000, 1, 7]), (20, [0, 0], [30, 0, 1, 1, 8, -1, 1, 6])], [], []))
abbrev b_Sy_compileBoth_at_k0 : ByteArray := prog_13_method_12_code
def y_Sy_compileBoth_at_k0 : MethodName := ⟨"DrawingHouse$Styler", "compileBoth", "(I)Z"⟩
abbrev z_Sy_compileBoth_at_k0 : List Cond := Cond.code y_Sy_compileBoth_at_k0 b_Sy_compileBoth_at_k0 3 (some .boolean) :: lw_g
def e_Sy_compileBoth_at_k0 : en_T := ([(2, 0, 0, [11]), (0, 0, 0, [])], some (0, 0, 1, []), false, 48, 0, 0, [], [((0, 3), (2, 0, 0, [109]))], (85070591730234615865843651857942052864, [(11, 1), (11, 2), (11, 5), (11, 6), (11, 7), (11, 8), (11, 11)], [], [], []))
abbrev b_Sy_compileBoth_at_k1 : ByteArray := prog_13_method_12_code
def y_Sy_compileBoth_at_k1 : MethodName := ⟨"DrawingHouse$Styler", "compileBoth", "(I)Z"⟩
abbrev z_Sy_compileBoth_at_k1 : List Cond := Cond.code y_Sy_compileBoth_at_k1 b_Sy_compileBoth_at_k1 3 (some .boolean) :: lw_g
def e_Sy_compileBoth_at_k1 : en_T := ([(2, 0, 0, [11]), (0, 1, 1, [])], some (0, 0, 1, []), false, 45, 0, 0, [], [((0, 3), (2, 0, 0, [109]))], (85070591730234615865843651857942052864, [(11, 1), (11, 2), (11, 5), (11, 6), (11, 7), (11, 8), (11, 11)], [], [], []))
abbrev b_Sy_compileBoth_at_k10 : ByteArray := prog_13_method_12_code
def y_Sy_compileBoth_at_k10 : MethodName := ⟨"DrawingHouse$Styler", "compileBoth", "(I)Z"⟩
abbrev z_Sy_compileBoth_at_k10 : List Cond := Cond.code y_Sy_compileBoth_at_k10 b_Sy_compileBoth_at_k10 3 (some .boolean) :: lw_g
def e_Sy_compileBoth_at_k10 : en_T := ([(2, 0, 0, [11]), (0, 10, 10, [])], some (0, 0, 1, []), false, 18, 0, 0, [], [((0, 3), (2, 0, 0, [109]))], (85070591730234615865843651857942052864, [(11, 1), (11, 2), (11, 5), (11, 6), (11, 7), (11, 8), (11, 11)], [], [], []))
abbrev b_Sy_compileBoth_at_k11 : ByteArray := prog_13_method_12_code
def y_Sy_compileBoth_at_k11 : MethodName := ⟨"DrawingHouse$Styler", "compileBoth", "(I)Z"⟩
abbrev z_Sy_compileBoth_at_k11 : List Cond := Cond.code y_Sy_compileBoth_at_k11 b_Sy_compileBoth_at_k11 3 (some .boolean) :: lw_g
def e_Sy_compileBoth_at_k11 : en_T := ([(2, 0, 0, [11]), (0, 11, 11, [])], some (0, 0, 1, []), false, 15, 0, 0, [], [((0, 3), (2, 0, 0, [109]))], (85070591730234615865843651857942052864, [(11, 1), (11, 2), (11, 5), (11, 6), (11, 7), (11, 8), (11, 11)], [], [], []))
abbrev b_Sy_compileBoth_at_k12 : ByteArray := prog_13_method_12_code
def y_Sy_compileBoth_at_k12 : MethodName := ⟨"DrawingHouse$Styler", "compileBoth", "(I)Z"⟩
abbrev z_Sy_compileBoth_at_k12 : List Cond := Cond.code y_Sy_compileBoth_at_k12 b_Sy_compileBoth_at_k12 3 (some .boolean) :: lw_g
def e_Sy_compileBoth_at_k12 : en_T := ([(2, 0, 0, [11]), (0, 12, 12, [])], some (0, 0, 1, []), false, 12, 0, 0, [], [((0, 3), (2, 0, 0, [109]))], (85070591730234615865843651857942052864, [(11, 1), (11, 2), (11, 5), (11, 6), (11, 7), (11, 8), (11, 11)], [], [], []))
abbrev b_Sy_compileBoth_at_k2 : ByteArray := prog_13_method_12_code
def y_Sy_compileBoth_at_k2 : MethodName := ⟨"DrawingHouse$Styler", "compileBoth", "(I)Z"⟩
abbrev z_Sy_compileBoth_at_k2 : List Cond := Cond.code y_Sy_compileBoth_at_k2 b_Sy_compileBoth_at_k2 3 (some .boolean) :: lw_g
def e_Sy_compileBoth_at_k2 : en_T := ([(2, 0, 0, [11]), (0, 2, 2, [])], some (0, 0, 1, []), false, 42, 0, 0, [], [((0, 3), (2, 0, 0, [109]))], (85070591730234615865843651857942052864, [(11, 1), (11, 2), (11, 5), (11, 6), (11, 7), (11, 8), (11, 11)], [], [], []))
abbrev b_Sy_compileBoth_at_k3 : ByteArray := prog_13_method_12_code
def y_Sy_compileBoth_at_k3 : MethodName := ⟨"DrawingHouse$Styler", "compileBoth", "(I)Z"⟩
abbrev z_Sy_compileBoth_at_k3 : List Cond := Cond.code y_Sy_compileBoth_at_k3 b_Sy_compileBoth_at_k3 3 (some .boolean) :: lw_g
def e_Sy_compileBoth_at_k3 : en_T := ([(2, 0, 0, [11]), (0, 3, 3, [])], some (0, 0, 1, []), false, 39, 0, 0, [], [((0, 3), (2, 0, 0, [109]))], (85070591730234615865843651857942052864, [(11, 1), (11, 2), (11, 5), (11, 6), (11, 7), (11, 8), (11, 11)], [], [], []))
abbrev b_Sy_compileBoth_at_k4 : ByteArray := prog_13_method_12_code
def y_Sy_compileBoth_at_k4 : MethodName := ⟨"DrawingHouse$Styler", "compileBoth", "(I)Z"⟩
abbrev z_Sy_compileBoth_at_k4 : List Cond := Cond.code y_Sy_compileBoth_at_k4 b_Sy_compileBoth_at_k4 3 (some .boolean) :: lw_g
def e_Sy_compileBoth_at_k4 : en_T := ([(2, 0, 0, [11]), (0, 4, 4, [])], some (0, 0, 1, []), false, 36, 0, 0, [], [((0, 3), (2, 0, 0, [109]))], (85070591730234615865843651857942052864, [(11, 1), (11, 2), (11, 5), (11, 6), (11, 7), (11, 8), (11, 11)], [], [], []))
abbrev b_Sy_compileBoth_at_k5 : ByteArray := prog_13_method_12_code
def y_Sy_compileBoth_at_k5 : MethodName := ⟨"DrawingHouse$Styler", "compileBoth", "(I)Z"⟩
abbrev z_Sy_compileBoth_at_k5 : List Cond := Cond.code y_Sy_compileBoth_at_k5 b_Sy_compileBoth_at_k5 3 (some .boolean) :: lw_g
def e_Sy_compileBoth_at_k5 : en_T := ([(2, 0, 0, [11]), (0, 5, 5, [])], some (0, 0, 1, []), false, 33, 0, 0, [], [((0, 3), (2, 0, 0, [109]))], (85070591730234615865843651857942052864, [(11, 1), (11, 2), (11, 5), (11, 6), (11, 7), (11, 8), (11, 11)], [], [], []))
abbrev b_Sy_compileBoth_at_k6 : ByteArray := prog_13_method_12_code
def y_Sy_compileBoth_at_k6 : MethodName := ⟨"DrawingHouse$Styler", "compileBoth", "(I)Z"⟩
abbrev z_Sy_compileBoth_at_k6 : List Cond := Cond.code y_Sy_compileBoth_at_k6 b_Sy_compileBoth_at_k6 3 (some .boolean) :: lw_g
def e_Sy_compileBoth_at_k6 : en_T := ([(2, 0, 0, [11]), (0, 6, 6, [])], some (0, 0, 1, []), false, 30, 0, 0, [], [((0, 3), (2, 0, 0, [109]))], (85070591730234615865843651857942052864, [(11, 1), (11, 2), (11, 5), (11, 6), (11, 7), (11, 8), (11, 11)], [], [], []))
abbrev b_Sy_compileBoth_at_k7 : ByteArray := prog_13_method_12_code
def y_Sy_compileBoth_at_k7 : MethodName := ⟨"DrawingHouse$Styler", "compileBoth", "(I)Z"⟩
abbrev z_Sy_compileBoth_at_k7 : List Cond := Cond.code y_Sy_compileBoth_at_k7 b_Sy_compileBoth_at_k7 3 (some .boolean) :: lw_g
def e_Sy_compileBoth_at_k7 : en_T := ([(2, 0, 0, [11]), (0, 7, 7, [])], some (0, 0, 1, []), false, 27, 0, 0, [], [((0, 3), (2, 0, 0, [109]))], (85070591730234615865843651857942052864, [(11, 1), (11, 2), (11, 5), (11, 6), (11, 7), (11, 8), (11, 11)], [], [], []))
abbrev b_Sy_compileBoth_at_k8 : ByteArray := prog_13_method_12_code
def y_Sy_compileBoth_at_k8 : MethodName := ⟨"DrawingHouse$Styler", "compileBoth", "(I)Z"⟩
abbrev z_Sy_compileBoth_at_k8 : List Cond := Cond.code y_Sy_compileBoth_at_k8 b_Sy_compileBoth_at_k8 3 (some .boolean) :: lw_g
def e_Sy_compileBoth_at_k8 : en_T := ([(2, 0, 0, [11]), (0, 8, 8, [])], some (0, 0, 1, []), false, 24, 0, 0, [], [((0, 3), (2, 0, 0, [109]))], (85070591730234615865843651857942052864, [(11, 1), (11, 2), (11, 5), (11, 6), (11, 7), (11, 8), (11, 11)], [], [], []))
abbrev b_Sy_compileBoth_at_k9 : ByteArray := prog_13_method_12_code
def y_Sy_compileBoth_at_k9 : MethodName := ⟨"DrawingHouse$Styler", "compileBoth", "(I)Z"⟩
abbrev z_Sy_compileBoth_at_k9 : List Cond := Cond.code y_Sy_compileBoth_at_k9 b_Sy_compileBoth_at_k9 3 (some .boolean) :: lw_g
def e_Sy_compileBoth_at_k9 : en_T := ([(2, 0, 0, [11]), (0, 9, 9, [])], some (0, 0, 1, []), false, 21, 0, 0, [], [((0, 3), (2, 0, 0, [109]))], (85070591730234615865843651857942052864, [(11, 1), (11, 2), (11, 5), (11, 6), (11, 7), (11, 8), (11, 11)], [], [], []))
abbrev b_Sy_compileOne_at_k0 : ByteArray := prog_13_method_13_code
def y_Sy_compileOne_at_k0 : MethodName := ⟨"DrawingHouse$Styler", "compileOne", "(I)Z"⟩
abbrev z_Sy_compileOne_at_k0 : List Cond := Cond.code y_Sy_compileOne_at_k0 b_Sy_compileOne_at_k0 5 (some .boolean) :: lw_g
def e_Sy_compileOne_at_k0 : en_T := ([(2, 0, 0, [11]), (0, 0, 0, [])], some (0, 0, 1, []), false, 47, 0, 0, [([(2, 0, 0, [11]), (0, 0, 0, []), (2, 0, 0, [109]), (0, 0, 1, [])], [], [3], [((0, 3), 2)], [], []), ([(2, 0, 0, [11]), (0, 0, 0, []), (2, 0, 0, [109]), (0, 0, 0, [])], [], [3], [((0, 3), 2)], [], []), ([(2, 0, 0, [11]), (0, 0, 0, []), (2, 0, 0, [109]), (0, 1, 1, [])], [], [3], [((0, 3), 2)], [], [])], [((0, 3), (2, 0, 0, [109]))], (85070591730234615865843651857942052864, [(11, 1), (11, 2), (11, 5), (11, 6), (11, 7), (11, 8), (11, 11)], [], [], []))
abbrev b_Sy_compileOne_at_k1 : ByteArray := prog_13_method_13_code
def y_Sy_compileOne_at_k1 : MethodName := ⟨"DrawingHouse$Styler", "compileOne", "(I)Z"⟩
abbrev z_Sy_compileOne_at_k1 : List Cond := Cond.code y_Sy_compileOne_at_k1 b_Sy_compileOne_at_k1 5 (some .boolean) :: lw_g
def e_Sy_compileOne_at_k1 : en_T := ([(2, 0, 0, [11]), (0, 1, 1, [])], some (0, 0, 1, []), false, 44, 0, 0, [([(2, 0, 0, [11]), (0, 1, 1, []), (2, 0, 0, [109]), (0, 0, 1, [])], [], [3], [((0, 3), 2)], [], []), ([(2, 0, 0, [11]), (0, 1, 1, []), (2, 0, 0, [109]), (0, 0, 0, [])], [], [3], [((0, 3), 2)], [], []), ([(2, 0, 0, [11]), (0, 1, 1, []), (2, 0, 0, [109]), (0, 1, 1, [])], [], [3], [((0, 3), 2)], [], [])], [((0, 3), (2, 0, 0, [109]))], (85070591730234615865843651857942052864, [(11, 1), (11, 2), (11, 5), (11, 6), (11, 7), (11, 8), (11, 11)], [], [], []))
abbrev b_Sy_compileOne_at_k10 : ByteArray := prog_13_method_13_code
def y_Sy_compileOne_at_k10 : MethodName := ⟨"DrawingHouse$Styler", "compileOne", "(I)Z"⟩
abbrev z_Sy_compileOne_at_k10 : List Cond := Cond.code y_Sy_compileOne_at_k10 b_Sy_compileOne_at_k10 5 (some .boolean) :: lw_g
def e_Sy_compileOne_at_k10 : en_T := ([(2, 0, 0, [11]), (0, 10, 10, [])], some (0, 0, 1, []), false, 17, 0, 0, [([(2, 0, 0, [11]), (0, 10, 10, []), (2, 0, 0, [109]), (0, 0, 1, [])], [], [3], [((0, 3), 2)], [], []), ([(2, 0, 0, [11]), (0, 10, 10, []), (2, 0, 0, [109]), (0, 0, 0, [])], [], [3], [((0, 3), 2)], [], []), ([(2, 0, 0, [11]), (0, 10, 10, []), (2, 0, 0, [109]), (0, 1, 1, [])], [], [3], [((0, 3), 2)], [], [])], [((0, 3), (2, 0, 0, [109]))], (85070591730234615865843651857942052864, [(11, 1), (11, 2), (11, 5), (11, 6), (11, 7), (11, 8), (11, 11)], [], [], []))
abbrev b_Sy_compileOne_at_k11 : ByteArray := prog_13_method_13_code
def y_Sy_compileOne_at_k11 : MethodName := ⟨"DrawingHouse$Styler", "compileOne", "(I)Z"⟩
abbrev z_Sy_compileOne_at_k11 : List Cond := Cond.code y_Sy_compileOne_at_k11 b_Sy_compileOne_at_k11 5 (some .boolean) :: lw_g
def e_Sy_compileOne_at_k11 : en_T := ([(2, 0, 0, [11]), (0, 11, 11, [])], some (0, 0, 1, []), false, 14, 0, 0, [([(2, 0, 0, [11]), (0, 11, 11, []), (2, 0, 0, [109]), (0, 0, 1, [])], [], [3], [((0, 3), 2)], [], []), ([(2, 0, 0, [11]), (0, 11, 11, []), (2, 0, 0, [109]), (0, 0, 0, [])], [], [3], [((0, 3), 2)], [], []), ([(2, 0, 0, [11]), (0, 11, 11, []), (2, 0, 0, [109]), (0, 1, 1, [])], [], [3], [((0, 3), 2)], [], [])], [((0, 3), (2, 0, 0, [109]))], (85070591730234615865843651857942052864, [(11, 1), (11, 2), (11, 5), (11, 6), (11, 7), (11, 8), (11, 11)], [], [], []))
abbrev b_Sy_compileOne_at_k12 : ByteArray := prog_13_method_13_code
def y_Sy_compileOne_at_k12 : MethodName := ⟨"DrawingHouse$Styler", "compileOne", "(I)Z"⟩
abbrev z_Sy_compileOne_at_k12 : List Cond := Cond.code y_Sy_compileOne_at_k12 b_Sy_compileOne_at_k12 5 (some .boolean) :: lw_g
def e_Sy_compileOne_at_k12 : en_T := ([(2, 0, 0, [11]), (0, 12, 12, [])], some (0, 0, 1, []), false, 11, 0, 0, [([(2, 0, 0, [11]), (0, 12, 12, []), (2, 0, 0, [109]), (0, 0, 1, [])], [], [3], [((0, 3), 2)], [], []), ([(2, 0, 0, [11]), (0, 12, 12, []), (2, 0, 0, [109]), (0, 0, 0, [])], [], [3], [((0, 3), 2)], [], [])], [((0, 3), (2, 0, 0, [109]))], (85070591730234615865843651857942052864, [(11, 1), (11, 2), (11, 5), (11, 6), (11, 7), (11, 8), (11, 11)], [], [], []))
abbrev b_Sy_compileOne_at_k2 : ByteArray := prog_13_method_13_code
def y_Sy_compileOne_at_k2 : MethodName := ⟨"DrawingHouse$Styler", "compileOne", "(I)Z"⟩
abbrev z_Sy_compileOne_at_k2 : List Cond := Cond.code y_Sy_compileOne_at_k2 b_Sy_compileOne_at_k2 5 (some .boolean) :: lw_g
def e_Sy_compileOne_at_k2 : en_T := ([(2, 0, 0, [11]), (0, 2, 2, [])], some (0, 0, 1, []), false, 41, 0, 0, [([(2, 0, 0, [11]), (0, 2, 2, []), (2, 0, 0, [109]), (0, 0, 1, [])], [], [3], [((0, 3), 2)], [], []), ([(2, 0, 0, [11]), (0, 2, 2, []), (2, 0, 0, [109]), (0, 0, 0, [])], [], [3], [((0, 3), 2)], [], []), ([(2, 0, 0, [11]), (0, 2, 2, []), (2, 0, 0, [109]), (0, 1, 1, [])], [], [3], [((0, 3), 2)], [], [])], [((0, 3), (2, 0, 0, [109]))], (85070591730234615865843651857942052864, [(11, 1), (11, 2), (11, 5), (11, 6), (11, 7), (11, 8), (11, 11)], [], [], []))
abbrev b_Sy_compileOne_at_k3 : ByteArray := prog_13_method_13_code
def y_Sy_compileOne_at_k3 : MethodName := ⟨"DrawingHouse$Styler", "compileOne", "(I)Z"⟩
abbrev z_Sy_compileOne_at_k3 : List Cond := Cond.code y_Sy_compileOne_at_k3 b_Sy_compileOne_at_k3 5 (some .boolean) :: lw_g
def e_Sy_compileOne_at_k3 : en_T := ([(2, 0, 0, [11]), (0, 3, 3, [])], some (0, 0, 1, []), false, 38, 0, 0, [([(2, 0, 0, [11]), (0, 3, 3, []), (2, 0, 0, [109]), (0, 0, 1, [])], [], [3], [((0, 3), 2)], [], []), ([(2, 0, 0, [11]), (0, 3, 3, []), (2, 0, 0, [109]), (0, 0, 0, [])], [], [3], [((0, 3), 2)], [], []), ([(2, 0, 0, [11]), (0, 3, 3, []), (2, 0, 0, [109]), (0, 1, 1, [])], [], [3], [((0, 3), 2)], [], [])], [((0, 3), (2, 0, 0, [109]))], (85070591730234615865843651857942052864, [(11, 1), (11, 2), (11, 5), (11, 6), (11, 7), (11, 8), (11, 11)], [], [], []))
abbrev b_Sy_compileOne_at_k4 : ByteArray := prog_13_method_13_code
def y_Sy_compileOne_at_k4 : MethodName := ⟨"DrawingHouse$Styler", "compileOne", "(I)Z"⟩
abbrev z_Sy_compileOne_at_k4 : List Cond := Cond.code y_Sy_compileOne_at_k4 b_Sy_compileOne_at_k4 5 (some .boolean) :: lw_g
def e_Sy_compileOne_at_k4 : en_T := ([(2, 0, 0, [11]), (0, 4, 4, [])], some (0, 0, 1, []), false, 35, 0, 0, [([(2, 0, 0, [11]), (0, 4, 4, []), (2, 0, 0, [109]), (0, 0, 1, [])], [], [3], [((0, 3), 2)], [], []), ([(2, 0, 0, [11]), (0, 4, 4, []), (2, 0, 0, [109]), (0, 0, 0, [])], [], [3], [((0, 3), 2)], [], []), ([(2, 0, 0, [11]), (0, 4, 4, []), (2, 0, 0, [109]), (0, 1, 1, [])], [], [3], [((0, 3), 2)], [], [])], [((0, 3), (2, 0, 0, [109]))], (85070591730234615865843651857942052864, [(11, 1), (11, 2), (11, 5), (11, 6), (11, 7), (11, 8), (11, 11)], [], [], []))
abbrev b_Sy_compileOne_at_k5 : ByteArray := prog_13_method_13_code
def y_Sy_compileOne_at_k5 : MethodName := ⟨"DrawingHouse$Styler", "compileOne", "(I)Z"⟩
abbrev z_Sy_compileOne_at_k5 : List Cond := Cond.code y_Sy_compileOne_at_k5 b_Sy_compileOne_at_k5 5 (some .boolean) :: lw_g
def e_Sy_compileOne_at_k5 : en_T := ([(2, 0, 0, [11]), (0, 5, 5, [])], some (0, 0, 1, []), false, 32, 0, 0, [([(2, 0, 0, [11]), (0, 5, 5, []), (2, 0, 0, [109]), (0, 0, 1, [])], [], [3], [((0, 3), 2)], [], []), ([(2, 0, 0, [11]), (0, 5, 5, []), (2, 0, 0, [109]), (0, 0, 0, [])], [], [3], [((0, 3), 2)], [], []), ([(2, 0, 0, [11]), (0, 5, 5, []), (2, 0, 0, [109]), (0, 1, 1, [])], [], [3], [((0, 3), 2)], [], [])], [((0, 3), (2, 0, 0, [109]))], (85070591730234615865843651857942052864, [(11, 1), (11, 2), (11, 5), (11, 6), (11, 7), (11, 8), (11, 11)], [], [], []))
abbrev b_Sy_compileOne_at_k6 : ByteArray := prog_13_method_13_code
def y_Sy_compileOne_at_k6 : MethodName := ⟨"DrawingHouse$Styler", "compileOne", "(I)Z"⟩
abbrev z_Sy_compileOne_at_k6 : List Cond := Cond.code y_Sy_compileOne_at_k6 b_Sy_compileOne_at_k6 5 (some .boolean) :: lw_g
def e_Sy_compileOne_at_k6 : en_T := ([(2, 0, 0, [11]), (0, 6, 6, [])], some (0, 0, 1, []), false, 29, 0, 0, [([(2, 0, 0, [11]), (0, 6, 6, []), (2, 0, 0, [109]), (0, 0, 1, [])], [], [3], [((0, 3), 2)], [], []), ([(2, 0, 0, [11]), (0, 6, 6, []), (2, 0, 0, [109]), (0, 0, 0, [])], [], [3], [((0, 3), 2)], [], []), ([(2, 0, 0, [11]), (0, 6, 6, []), (2, 0, 0, [109]), (0, 1, 1, [])], [], [3], [((0, 3), 2)], [], [])], [((0, 3), (2, 0, 0, [109]))], (85070591730234615865843651857942052864, [(11, 1), (11, 2), (11, 5), (11, 6), (11, 7), (11, 8), (11, 11)], [], [], []))
abbrev b_Sy_compileOne_at_k7 : ByteArray := prog_13_method_13_code
def y_Sy_compileOne_at_k7 : MethodName := ⟨"DrawingHouse$Styler", "compileOne", "(I)Z"⟩
abbrev z_Sy_compileOne_at_k7 : List Cond := Cond.code y_Sy_compileOne_at_k7 b_Sy_compileOne_at_k7 5 (some .boolean) :: lw_g
def e_Sy_compileOne_at_k7 : en_T := ([(2, 0, 0, [11]), (0, 7, 7, [])], some (0, 0, 1, []), false, 26, 0, 0, [([(2, 0, 0, [11]), (0, 7, 7, []), (2, 0, 0, [109]), (0, 0, 1, [])], [], [3], [((0, 3), 2)], [], []), ([(2, 0, 0, [11]), (0, 7, 7, []), (2, 0, 0, [109]), (0, 0, 0, [])], [], [3], [((0, 3), 2)], [], []), ([(2, 0, 0, [11]), (0, 7, 7, []), (2, 0, 0, [109]), (0, 1, 1, [])], [], [3], [((0, 3), 2)], [], [])], [((0, 3), (2, 0, 0, [109]))], (85070591730234615865843651857942052864, [(11, 1), (11, 2), (11, 5), (11, 6), (11, 7), (11, 8), (11, 11)], [], [], []))
abbrev b_Sy_compileOne_at_k8 : ByteArray := prog_13_method_13_code
def y_Sy_compileOne_at_k8 : MethodName := ⟨"DrawingHouse$Styler", "compileOne", "(I)Z"⟩
abbrev z_Sy_compileOne_at_k8 : List Cond := Cond.code y_Sy_compileOne_at_k8 b_Sy_compileOne_at_k8 5 (some .boolean) :: lw_g
def e_Sy_compileOne_at_k8 : en_T := ([(2, 0, 0, [11]), (0, 8, 8, [])], some (0, 0, 1, []), false, 23, 0, 0, [([(2, 0, 0, [11]), (0, 8, 8, []), (2, 0, 0, [109]), (0, 0, 1, [])], [], [3], [((0, 3), 2)], [], []), ([(2, 0, 0, [11]), (0, 8, 8, []), (2, 0, 0, [109]), (0, 0, 0, [])], [], [3], [((0, 3), 2)], [], []), ([(2, 0, 0, [11]), (0, 8, 8, []), (2, 0, 0, [109]), (0, 1, 1, [])], [], [3], [((0, 3), 2)], [], [])], [((0, 3), (2, 0, 0, [109]))], (85070591730234615865843651857942052864, [(11, 1), (11, 2), (11, 5), (11, 6), (11, 7), (11, 8), (11, 11)], [], [], []))
abbrev b_Sy_compileOne_at_k9 : ByteArray := prog_13_method_13_code
def y_Sy_compileOne_at_k9 : MethodName := ⟨"DrawingHouse$Styler", "compileOne", "(I)Z"⟩
abbrev z_Sy_compileOne_at_k9 : List Cond := Cond.code y_Sy_compileOne_at_k9 b_Sy_compileOne_at_k9 5 (some .boolean) :: lw_g
def e_Sy_compileOne_at_k9 : en_T := ([(2, 0, 0, [11]), (0, 9, 9, [])], some (0, 0, 1, []), false, 20, 0, 0, [([(2, 0, 0, [11]), (0, 9, 9, []), (2, 0, 0, [109]), (0, 0, 1, [])], [], [3], [((0, 3), 2)], [], []), ([(2, 0, 0, [11]), (0, 9, 9, []), (2, 0, 0, [109]), (0, 0, 0, [])], [], [3], [((0, 3), 2)], [], []), ([(2, 0, 0, [11]), (0, 9, 9, []), (2, 0, 0, [109]), (0, 1, 1, [])], [], [3], [((0, 3), 2)], [], [])], [((0, 3), (2, 0, 0, [109]))], (85070591730234615865843651857942052864, [(11, 1), (11, 2), (11, 5), (11, 6), (11, 7), (11, 8), (11, 11)], [], [], []))
abbrev b_Sy_compileTest_at_k0 : ByteArray := prog_13_method_11_code
def y_Sy_compileTest_at_k0 : MethodName := ⟨"DrawingHouse$Styler", "compileTest", "(I)Z"⟩
abbrev z_Sy_compileTest_at_k0 : List Cond := Cond.code y_Sy_compileTest_at_k0 b_Sy_compileTest_at_k0 3 (some .boolean) :: lw_g
def e_Sy_compileTest_at_k0 : en_T := ([(2, 0, 0, [11]), (0, 0, 0, [])], some (0, 0, 1, []), false, 49, 0, 0, [], [((0, 3), (2, 0, 0, [109]))], (85070591730234615865843651857942052864, [(11, 1), (11, 2), (11, 5), (11, 6), (11, 7), (11, 8), (11, 11)], [], [], []))
abbrev b_Sy_compileTest_at_k1 : ByteArray := prog_13_method_11_code
def y_Sy_compileTest_at_k1 : MethodName := ⟨"DrawingHouse$Styler", "compileTest", "(I)Z"⟩
abbrev z_Sy_compileTest_at_k1 : List Cond := Cond.code y_Sy_compileTest_at_k1 b_Sy_compileTest_at_k1 3 (some .boolean) :: lw_g
def e_Sy_compileTest_at_k1 : en_T := ([(2, 0, 0, [11]), (0, 1, 1, [])], some (0, 0, 1, []), false, 46, 0, 0, [], [((0, 3), (2, 0, 0, [109]))], (85070591730234615865843651857942052864, [(11, 1), (11, 2), (11, 5), (11, 6), (11, 7), (11, 8), (11, 11)], [], [], []))
abbrev b_Sy_compileTest_at_k10 : ByteArray := prog_13_method_11_code
def y_Sy_compileTest_at_k10 : MethodName := ⟨"DrawingHouse$Styler", "compileTest", "(I)Z"⟩
abbrev z_Sy_compileTest_at_k10 : List Cond := Cond.code y_Sy_compileTest_at_k10 b_Sy_compileTest_at_k10 3 (some .boolean) :: lw_g
def e_Sy_compileTest_at_k10 : en_T := ([(2, 0, 0, [11]), (0, 10, 10, [])], some (0, 0, 1, []), false, 19, 0, 0, [], [((0, 3), (2, 0, 0, [109]))], (85070591730234615865843651857942052864, [(11, 1), (11, 2), (11, 5), (11, 6), (11, 7), (11, 8), (11, 11)], [], [], []))
abbrev b_Sy_compileTest_at_k11 : ByteArray := prog_13_method_11_code
def y_Sy_compileTest_at_k11 : MethodName := ⟨"DrawingHouse$Styler", "compileTest", "(I)Z"⟩
abbrev z_Sy_compileTest_at_k11 : List Cond := Cond.code y_Sy_compileTest_at_k11 b_Sy_compileTest_at_k11 3 (some .boolean) :: lw_g
def e_Sy_compileTest_at_k11 : en_T := ([(2, 0, 0, [11]), (0, 11, 11, [])], some (0, 0, 1, []), false, 16, 0, 0, [], [((0, 3), (2, 0, 0, [109]))], (85070591730234615865843651857942052864, [(11, 1), (11, 2), (11, 5), (11, 6), (11, 7), (11, 8), (11, 11)], [], [], []))
abbrev b_Sy_compileTest_at_k12 : ByteArray := prog_13_method_11_code
def y_Sy_compileTest_at_k12 : MethodName := ⟨"DrawingHouse$Styler", "compileTest", "(I)Z"⟩
abbrev z_Sy_compileTest_at_k12 : List Cond := Cond.code y_Sy_compileTest_at_k12 b_Sy_compileTest_at_k12 3 (some .boolean) :: lw_g
def e_Sy_compileTest_at_k12 : en_T := ([(2, 0, 0, [11]), (0, 12, 12, [])], some (0, 0, 1, []), false, 13, 0, 0, [], [((0, 3), (2, 0, 0, [109]))], (85070591730234615865843651857942052864, [(11, 1), (11, 2), (11, 5), (11, 6), (11, 7), (11, 8), (11, 11)], [], [], []))
abbrev b_Sy_compileTest_at_k2 : ByteArray := prog_13_method_11_code
def y_Sy_compileTest_at_k2 : MethodName := ⟨"DrawingHouse$Styler", "compileTest", "(I)Z"⟩
abbrev z_Sy_compileTest_at_k2 : List Cond := Cond.code y_Sy_compileTest_at_k2 b_Sy_compileTest_at_k2 3 (some .boolean) :: lw_g
def e_Sy_compileTest_at_k2 : en_T := ([(2, 0, 0, [11]), (0, 2, 2, [])], some (0, 0, 1, []), false, 43, 0, 0, [], [((0, 3), (2, 0, 0, [109]))], (85070591730234615865843651857942052864, [(11, 1), (11, 2), (11, 5), (11, 6), (11, 7), (11, 8), (11, 11)], [], [], []))
abbrev b_Sy_compileTest_at_k3 : ByteArray := prog_13_method_11_code
def y_Sy_compileTest_at_k3 : MethodName := ⟨"DrawingHouse$Styler", "compileTest", "(I)Z"⟩
abbrev z_Sy_compileTest_at_k3 : List Cond := Cond.code y_Sy_compileTest_at_k3 b_Sy_compileTest_at_k3 3 (some .boolean) :: lw_g
def e_Sy_compileTest_at_k3 : en_T := ([(2, 0, 0, [11]), (0, 3, 3, [])], some (0, 0, 1, []), false, 40, 0, 0, [], [((0, 3), (2, 0, 0, [109]))], (85070591730234615865843651857942052864, [(11, 1), (11, 2), (11, 5), (11, 6), (11, 7), (11, 8), (11, 11)], [], [], []))
abbrev b_Sy_compileTest_at_k4 : ByteArray := prog_13_method_11_code
def y_Sy_compileTest_at_k4 : MethodName := ⟨"DrawingHouse$Styler", "compileTest", "(I)Z"⟩
abbrev z_Sy_compileTest_at_k4 : List Cond := Cond.code y_Sy_compileTest_at_k4 b_Sy_compileTest_at_k4 3 (some .boolean) :: lw_g
def e_Sy_compileTest_at_k4 : en_T := ([(2, 0, 0, [11]), (0, 4, 4, [])], some (0, 0, 1, []), false, 37, 0, 0, [], [((0, 3), (2, 0, 0, [109]))], (85070591730234615865843651857942052864, [(11, 1), (11, 2), (11, 5), (11, 6), (11, 7), (11, 8), (11, 11)], [], [], []))
abbrev b_Sy_compileTest_at_k5 : ByteArray := prog_13_method_11_code
def y_Sy_compileTest_at_k5 : MethodName := ⟨"DrawingHouse$Styler", "compileTest", "(I)Z"⟩
abbrev z_Sy_compileTest_at_k5 : List Cond := Cond.code y_Sy_compileTest_at_k5 b_Sy_compileTest_at_k5 3 (some .boolean) :: lw_g
def e_Sy_compileTest_at_k5 : en_T := ([(2, 0, 0, [11]), (0, 5, 5, [])], some (0, 0, 1, []), false, 34, 0, 0, [], [((0, 3), (2, 0, 0, [109]))], (85070591730234615865843651857942052864, [(11, 1), (11, 2), (11, 5), (11, 6), (11, 7), (11, 8), (11, 11)], [], [], []))
abbrev b_Sy_compileTest_at_k6 : ByteArray := prog_13_method_11_code
def y_Sy_compileTest_at_k6 : MethodName := ⟨"DrawingHouse$Styler", "compileTest", "(I)Z"⟩
abbrev z_Sy_compileTest_at_k6 : List Cond := Cond.code y_Sy_compileTest_at_k6 b_Sy_compileTest_at_k6 3 (some .boolean) :: lw_g
def e_Sy_compileTest_at_k6 : en_T := ([(2, 0, 0, [11]), (0, 6, 6, [])], some (0, 0, 1, []), false, 31, 0, 0, [], [((0, 3), (2, 0, 0, [109]))], (85070591730234615865843651857942052864, [(11, 1), (11, 2), (11, 5), (11, 6), (11, 7), (11, 8), (11, 11)], [], [], []))
abbrev b_Sy_compileTest_at_k7 : ByteArray := prog_13_method_11_code
def y_Sy_compileTest_at_k7 : MethodName := ⟨"DrawingHouse$Styler", "compileTest", "(I)Z"⟩
abbrev z_Sy_compileTest_at_k7 : List Cond := Cond.code y_Sy_compileTest_at_k7 b_Sy_compileTest_at_k7 3 (some .boolean) :: lw_g
def e_Sy_compileTest_at_k7 : en_T := ([(2, 0, 0, [11]), (0, 7, 7, [])], some (0, 0, 1, []), false, 28, 0, 0, [], [((0, 3), (2, 0, 0, [109]))], (85070591730234615865843651857942052864, [(11, 1), (11, 2), (11, 5), (11, 6), (11, 7), (11, 8), (11, 11)], [], [], []))
abbrev b_Sy_compileTest_at_k8 : ByteArray := prog_13_method_11_code
def y_Sy_compileTest_at_k8 : MethodName := ⟨"DrawingHouse$Styler", "compileTest", "(I)Z"⟩
abbrev z_Sy_compileTest_at_k8 : List Cond := Cond.code y_Sy_compileTest_at_k8 b_Sy_compileTest_at_k8 3 (some .boolean) :: lw_g
def e_Sy_compileTest_at_k8 : en_T := ([(2, 0, 0, [11]), (0, 8, 8, [])], some (0, 0, 1, []), false, 25, 0, 0, [], [((0, 3), (2, 0, 0, [109]))], (85070591730234615865843651857942052864, [(11, 1), (11, 2), (11, 5), (11, 6), (11, 7), (11, 8), (11, 11)], [], [], []))
abbrev b_Sy_compileTest_at_k9 : ByteArray := prog_13_method_11_code
def y_Sy_compileTest_at_k9 : MethodName := ⟨"DrawingHouse$Styler", "compileTest", "(I)Z"⟩
abbrev z_Sy_compileTest_at_k9 : List Cond := Cond.code y_Sy_compileTest_at_k9 b_Sy_compileTest_at_k9 3 (some .boolean) :: lw_g
def e_Sy_compileTest_at_k9 : en_T := ([(2, 0, 0, [11]), (0, 9, 9, [])], some (0, 0, 1, []), false, 22, 0, 0, [], [((0, 3), (2, 0, 0, [109]))], (85070591730234615865843651857942052864, [(11, 1), (11, 2), (11, 5), (11, 6), (11, 7), (11, 8), (11, 11)], [], [], []))
abbrev b_Mo_edgeItem : ByteArray := prog_15_method_39_code
def y_Mo_edgeItem : MethodName := ⟨"DrawingHouseModel", "edgeItem", "(I)V"⟩
abbrev z_Mo_edgeItem : List Cond := Cond.code y_Mo_edgeItem b_Mo_edgeItem 6 none :: lw_g
def e_Mo_edgeItem : en_T := ([(2, 0, 0, [150]), (0, 0, 7, [])], none, false, 11, 0, 0, [], [], (5708990770823839524233143877797980545530986496, [(13, 8), (13, 9), (13, 11), (13, 12), (13, 13), (13, 14), (13, 15)], [(20, [0, 0], [30, 0, 1, 1, 15, -1, 1, 11]), (20, [0], [50, 3, 0, 12, 11, 15, 2, 21, 4, 7, 1, 3, 2, 0, 12, 0, 1, 0, 3, 2, 0, 11, 4, 3, 2, 0, 15, 0, 8, 3, 7, 1, 3, 2, 0, 12, 0, 0, 0, 7, 4, 3, 2, 0, 15, 0, 1, 2, 0, 11]), (20, [2, 0], [30, 0, 1, 0, 0, -1, 1, 11]), (20, [1, 0], [50, 1, 1, 1005, 1002, 0, 6, 4, 2, 1, 0, 0, 1, 3, 1, 2, 4, 3, 2, 1, 5, 0, 2])], [(20, [0, 0], [30, 0, 1, 1, 15, -1, 1, 11]), (20, [0], [50, 3, 0, 12, 11, 15, 2, 21, 4, 7, 1, 3, 2, 0, 12, 0, 1, 0, 3, 2, 0, 11, 4, 3, 2, 0, 15, 0, 8, 3, 7, 1, 3, 2, 0, 12, 0, 0, 0, 7, 4, 3, 2, 0, 15, 0, 1, 2, 0, 11]), (20, [2, 0], [30, 0, 1, 0, 0, -1, 1, 11]), (20, [0, 2], [50, 2, 0, 8, 11, 3, 7, 0, 2, 0, 1, 2, 0, 8, 0, 6, 4, 2, 1, 1, 0, 1, 2, 0, 11]), (20, [1, 0], [50, 1, 1, 1005, 1002, 0, 6, 4, 2, 1, 0, 0, 1, 3, 1, 2, 4, 3, 2, 1, 5, 0, 2])], [(0, 0, 2000, [])]))
abbrev b_Ho_edge : ByteArray := prog_1_method_7_code
def y_Ho_edge : MethodName := ⟨"DrawingHouse", "edge", "(III)I"⟩
abbrev z_Ho_edge : List Cond := Cond.code y_Ho_edge b_Ho_edge 4 (some .int) :: lw_g
def e_Ho_edge : en_T := ([(2, 0, 0, [12]), (0, -2147483648, 2147483647, []), (0, -2147483648, 2147483647, []), (0, -2147483648, 2147483647, [])], some (0, -1, 47, []), false, 13, 0, 0, [], [], (281337604866048, [(2, 0), (2, 1), (2, 2), (2, 3)], [], [], []))
abbrev b_Sy_compileRule : ByteArray := prog_13_method_9_code
def y_Sy_compileRule : MethodName := ⟨"DrawingHouse$Styler", "compileRule", "()Z"⟩
abbrev z_Sy_compileRule : List Cond := Cond.code y_Sy_compileRule b_Sy_compileRule 3 (some .boolean) :: lw_g
def e_Sy_compileRule : en_T := ([(2, 0, 0, [11])], some (0, 0, 1, []), false, 50, 0, 0, [], [((0, 3), (2, 0, 0, [109])), ((0, 0), (0, 0, 112, []))], (595494142111642311060905563005594370048, [(11, 0), (11, 1), (11, 2), (11, 5), (11, 6), (11, 7), (11, 8), (11, 9), (11, 11)], [(20, [0, 3], [30, 0, 1, 1, 0, -1, 0, 0])], [(20, [0, 3], [30, 1, 1, 1, 0, -1, 0, 0])], [(0, 0, 111, [])]))
abbrev b_Em_bar : ByteArray := prog_3_method_3_code
def y_Em_bar : MethodName := ⟨"DrawingHouse$Embedder", "bar", "(LDrawingHouse$Graph;LDrawingHouse$Net;)V"⟩
abbrev z_Em_bar : List Cond := Cond.code y_Em_bar b_Em_bar 4 none :: lw_g
def e_Em_bar : en_T := ([(2, 0, 0, [1]), (2, 0, 0, [3]), (2, 0, 0, [5])], none, false, 10, 0, 0, [], [], (712230049778193471658784469088133964216926208, [(1, 0), (1, 5), (1, 6), (1, 7), (1, 15), (1, 16), (1, 17), (1, 18), (5, 2), (5, 3), (5, 5), (5, 6), (5, 13)], [], [], []))
abbrev b_Em_outer : ByteArray := prog_3_method_2_code
def y_Em_outer : MethodName := ⟨"DrawingHouse$Embedder", "outer", "(LDrawingHouse$Graph;LDrawingHouse$Net;)I"⟩
abbrev z_Em_outer : List Cond := Cond.code y_Em_outer b_Em_outer 4 (some .int) :: lw_g
def e_Em_outer : en_T := ([(2, 0, 0, [1]), (2, 0, 0, [3]), (2, 0, 0, [5])], some (0, 0, 1, []), false, 10, 0, 0, [], [], (712230049778193471658180006178326649361137664, [(1, 0), (1, 5), (1, 6), (1, 7), (1, 15), (1, 16), (1, 17), (1, 18), (5, 1), (5, 5), (5, 6), (5, 13)], [], [], []))
abbrev b_Sy_compile : ByteArray := prog_13_method_2_code
def y_Sy_compile : MethodName := ⟨"DrawingHouse$Styler", "compile", "([BI)Z"⟩
abbrev z_Sy_compile : List Cond := Cond.code y_Sy_compile b_Sy_compile 4 (some .boolean) :: lw_g
def e_Sy_compile : en_T := ([(2, 0, 0, [11]), (2, 0, 0, [109]), (0, 0, 2000, [])], some (0, 0, 1, []), false, 51, 0, 0, [], [], (595494142111642311060905563005594370048, [(11, 0), (11, 1), (11, 2), (11, 3), (11, 4), (11, 5), (11, 6), (11, 7), (11, 8), (11, 9), (11, 11)], [], [], []))
abbrev b_Re_readGraph : ByteArray := prog_10_method_3_code
def y_Re_readGraph : MethodName := ⟨"DrawingHouse$Reader", "readGraph", "(I)Z"⟩
abbrev z_Re_readGraph : List Cond := Cond.code y_Re_readGraph b_Re_readGraph 3 (some .boolean) :: lw_g
def e_Re_readGraph : en_T := ([(2, 0, 0, [8]), (0, 0, 2000, [])], some (0, 0, 1, []), false, 12, 0, 0, [], [], (1298074214633709212694158319288320, [(3, 0), (3, 1), (3, 2), (3, 17), (3, 18), (8, 2), (8, 3), (8, 5), (8, 6), (8, 7), (8, 8), (8, 9), (8, 11)], [], [], []))
abbrev b_Mo_judge : ByteArray := prog_15_method_205_code
def y_Mo_judge : MethodName := ⟨"DrawingHouseModel", "judge", "(II)J"⟩
abbrev z_Mo_judge : List Cond := Cond.code y_Mo_judge b_Mo_judge 9 (some .long) :: lw_g
def e_Mo_judge : en_T := ([(2, 0, 0, [150]), (0, -2147483648, 2147483647, []), (0, -2147483648, 2147483647, [])], some (1, -9223372036854775808, 9223372036854775807, []), false, 10, 0, 0, [], [], (0, [(13, 5), (13, 139), (13, 153), (13, 154), (13, 155), (13, 156)], [], [], []))
abbrev b_Ho_embedded : ByteArray := prog_1_method_34_code
def y_Ho_embedded : MethodName := ⟨"DrawingHouse", "embedded", "(I)LDrawingHouse$Net;"⟩
abbrev z_Ho_embedded : List Cond := Cond.code y_Ho_embedded b_Ho_embedded 3 (some (.object "DrawingHouse$Net")) :: lw_g
def e_Ho_embedded : en_T := ([(2, 0, 0, [12]), (0, 0, 3, [])], some (2, 0, 0, [5]), false, 11, 0, 0, [], [], (712230049778193471658784469088133964216926208, [(1, 0), (1, 5), (1, 6), (1, 7), (1, 15), (1, 16), (1, 17), (1, 18), (5, 0), (5, 2), (5, 3), (5, 5), (5, 6), (5, 13)], [], [], []))
abbrev b_Mo_groupItem_at_k0 : ByteArray := prog_15_method_38_code
def y_Mo_groupItem_at_k0 : MethodName := ⟨"DrawingHouseModel", "groupItem", "(II)V"⟩
abbrev z_Mo_groupItem_at_k0 : List Cond := Cond.code y_Mo_groupItem_at_k0 b_Mo_groupItem_at_k0 5 none :: lw_g
def e_Mo_groupItem_at_k0 : en_T := ([(2, 0, 0, [150]), (0, 0, 0, []), (0, 0, 0, [])], none, false, 19, 0, 0, [], [], (5708990770823839524233143877797980545530986496, [(13, 8), (13, 9), (13, 11), (13, 12), (13, 13), (13, 14), (13, 15)], [(20, [0, 0], [30, 0, 1, 1, 15, -1, 1, 11]), (20, [0], [50, 3, 0, 12, 11, 15, 2, 21, 4, 7, 1, 3, 2, 0, 12, 0, 1, 0, 3, 2, 0, 11, 4, 3, 2, 0, 15, 0, 8, 3, 7, 1, 3, 2, 0, 12, 0, 0, 0, 7, 4, 3, 2, 0, 15, 0, 1, 2, 0, 11]), (20, [3, 0], [30, 0, 1, 0, 0, -1, 1, 11]), (20, [1, 0], [50, 1, 1, 1005, 1002, 0, 6, 4, 2, 1, 0, 0, 1, 3, 1, 2, 4, 3, 2, 1, 5, 0, 2])], [(20, [0, 0], [30, 0, 1, 1, 15, -1, 1, 11]), (20, [0], [50, 3, 0, 12, 11, 15, 2, 21, 4, 7, 1, 3, 2, 0, 12, 0, 1, 0, 3, 2, 0, 11, 4, 3, 2, 0, 15, 0, 8, 3, 7, 1, 3, 2, 0, 12, 0, 0, 0, 7, 4, 3, 2, 0, 15, 0, 1, 2, 0, 11]), (20, [3, 0], [30, 0, 1, 0, 0, -1, 1, 11]), (20, [0, 3], [50, 2, 0, 8, 11, 3, 7, 0, 2, 0, 1, 2, 0, 8, 0, 6, 4, 2, 1, 1, 0, 1, 2, 0, 11]), (20, [1, 0], [50, 1, 1, 1005, 1002, 0, 6, 4, 2, 1, 0, 0, 1, 3, 1, 2, 4, 3, 2, 1, 5, 0, 2])], [(0, 0, 2000, [])]))
abbrev b_Mo_groupItem_at_k1 : ByteArray := prog_15_method_38_code
def y_Mo_groupItem_at_k1 : MethodName := ⟨"DrawingHouseModel", "groupItem", "(II)V"⟩
abbrev z_Mo_groupItem_at_k1 : List Cond := Cond.code y_Mo_groupItem_at_k1 b_Mo_groupItem_at_k1 5 none :: lw_g
def e_Mo_groupItem_at_k1 : en_T := ([(2, 0, 0, [150]), (0, 0, 7, []), (0, 1, 1, [])], none, false, 17, 0, 0, [], [], (5708990770823839524233143877797980545530986496, [(13, 8), (13, 9), (13, 11), (13, 12), (13, 13), (13, 14), (13, 15)], [(20, [0, 0], [30, 0, 1, 1, 15, -1, 1, 11]), (20, [0], [50, 3, 0, 12, 11, 15, 2, 21, 4, 7, 1, 3, 2, 0, 12, 0, 1, 0, 3, 2, 0, 11, 4, 3, 2, 0, 15, 0, 8, 3, 7, 1, 3, 2, 0, 12, 0, 0, 0, 7, 4, 3, 2, 0, 15, 0, 1, 2, 0, 11]), (20, [3, 0], [30, 0, 1, 0, 0, -1, 1, 11]), (20, [1, 0], [50, 1, 1, 1005, 1002, 0, 6, 4, 2, 1, 0, 0, 1, 3, 1, 2, 4, 3, 2, 1, 5, 0, 2])], [(20, [0, 0], [30, 0, 1, 1, 15, -1, 1, 11]), (20, [0], [50, 3, 0, 12, 11, 15, 2, 21, 4, 7, 1, 3, 2, 0, 12, 0, 1, 0, 3, 2, 0, 11, 4, 3, 2, 0, 15, 0, 8, 3, 7, 1, 3, 2, 0, 12, 0, 0, 0, 7, 4, 3, 2, 0, 15, 0, 1, 2, 0, 11]), (20, [3, 0], [30, 0, 1, 0, 0, -1, 1, 11]), (20, [0, 3], [50, 2, 0, 8, 11, 3, 7, 0, 2, 0, 1, 2, 0, 8, 0, 6, 4, 2, 1, 1, 0, 1, 2, 0, 11]), (20, [1, 0], [50, 1, 1, 1005, 1002, 0, 6, 4, 2, 1, 0, 0, 1, 3, 1, 2, 4, 3, 2, 1, 5, 0, 2])], [(0, 0, 2000, [])]))
abbrev b_Mo_groupItem_at_k2 : ByteArray := prog_15_method_38_code
def y_Mo_groupItem_at_k2 : MethodName := ⟨"DrawingHouseModel", "groupItem", "(II)V"⟩
abbrev z_Mo_groupItem_at_k2 : List Cond := Cond.code y_Mo_groupItem_at_k2 b_Mo_groupItem_at_k2 5 none :: lw_g
def e_Mo_groupItem_at_k2 : en_T := ([(2, 0, 0, [150]), (0, 0, 7, []), (0, 2, 2, [])], none, false, 15, 0, 0, [], [], (5708990770823839524233143877797980545530986496, [(13, 8), (13, 9), (13, 11), (13, 12), (13, 13), (13, 14), (13, 15)], [(20, [0, 0], [30, 0, 1, 1, 15, -1, 1, 11]), (20, [0], [50, 3, 0, 12, 11, 15, 2, 21, 4, 7, 1, 3, 2, 0, 12, 0, 1, 0, 3, 2, 0, 11, 4, 3, 2, 0, 15, 0, 8, 3, 7, 1, 3, 2, 0, 12, 0, 0, 0, 7, 4, 3, 2, 0, 15, 0, 1, 2, 0, 11]), (20, [3, 0], [30, 0, 1, 0, 0, -1, 1, 11]), (20, [1, 0], [50, 1, 1, 1005, 1002, 0, 6, 4, 2, 1, 0, 0, 1, 3, 1, 2, 4, 3, 2, 1, 5, 0, 2])], [(20, [0, 0], [30, 0, 1, 1, 15, -1, 1, 11]), (20, [0], [50, 3, 0, 12, 11, 15, 2, 21, 4, 7, 1, 3, 2, 0, 12, 0, 1, 0, 3, 2, 0, 11, 4, 3, 2, 0, 15, 0, 8, 3, 7, 1, 3, 2, 0, 12, 0, 0, 0, 7, 4, 3, 2, 0, 15, 0, 1, 2, 0, 11]), (20, [3, 0], [30, 0, 1, 0, 0, -1, 1, 11]), (20, [0, 3], [50, 2, 0, 8, 11, 3, 7, 0, 2, 0, 1, 2, 0, 8, 0, 6, 4, 2, 1, 1, 0, 1, 2, 0, 11]), (20, [1, 0], [50, 1, 1, 1005, 1002, 0, 6, 4, 2, 1, 0, 0, 1, 3, 1, 2, 4, 3, 2, 1, 5, 0, 2])], [(0, 0, 2000, [])]))
abbrev b_Mo_groupItem_at_k3 : ByteArray := prog_15_method_38_code
def y_Mo_groupItem_at_k3 : MethodName := ⟨"DrawingHouseModel", "groupItem", "(II)V"⟩
abbrev z_Mo_groupItem_at_k3 : List Cond := Cond.code y_Mo_groupItem_at_k3 b_Mo_groupItem_at_k3 5 none :: lw_g
def e_Mo_groupItem_at_k3 : en_T := ([(2, 0, 0, [150]), (0, 0, 7, []), (0, 3, 3, [])], none, false, 13, 0, 0, [], [], (5708990770823839524233143877797980545530986496, [(13, 8), (13, 9), (13, 11), (13, 12), (13, 13), (13, 14), (13, 15)], [(20, [0, 0], [30, 0, 1, 1, 15, -1, 1, 11]), (20, [0], [50, 3, 0, 12, 11, 15, 2, 21, 4, 7, 1, 3, 2, 0, 12, 0, 1, 0, 3, 2, 0, 11, 4, 3, 2, 0, 15, 0, 8, 3, 7, 1, 3, 2, 0, 12, 0, 0, 0, 7, 4, 3, 2, 0, 15, 0, 1, 2, 0, 11]), (20, [3, 0], [30, 0, 1, 0, 0, -1, 1, 11]), (20, [1, 0], [50, 1, 1, 1005, 1002, 0, 6, 4, 2, 1, 0, 0, 1, 3, 1, 2, 4, 3, 2, 1, 5, 0, 2])], [(20, [0, 0], [30, 0, 1, 1, 15, -1, 1, 11]), (20, [0], [50, 3, 0, 12, 11, 15, 2, 21, 4, 7, 1, 3, 2, 0, 12, 0, 1, 0, 3, 2, 0, 11, 4, 3, 2, 0, 15, 0, 8, 3, 7, 1, 3, 2, 0, 12, 0, 0, 0, 7, 4, 3, 2, 0, 15, 0, 1, 2, 0, 11]), (20, [3, 0], [30, 0, 1, 0, 0, -1, 1, 11]), (20, [0, 3], [50, 2, 0, 8, 11, 3, 7, 0, 2, 0, 1, 2, 0, 8, 0, 6, 4, 2, 1, 1, 0, 1, 2, 0, 11]), (20, [1, 0], [50, 1, 1, 1005, 1002, 0, 6, 4, 2, 1, 0, 0, 1, 3, 1, 2, 4, 3, 2, 1, 5, 0, 2])], [(0, 0, 2000, [])]))
abbrev b_Mo_groupItem_at_k4 : ByteArray := prog_15_method_38_code
def y_Mo_groupItem_at_k4 : MethodName := ⟨"DrawingHouseModel", "groupItem", "(II)V"⟩
abbrev z_Mo_groupItem_at_k4 : List Cond := Cond.code y_Mo_groupItem_at_k4 b_Mo_groupItem_at_k4 5 none :: lw_g
def e_Mo_groupItem_at_k4 : en_T := ([(2, 0, 0, [150]), (0, 0, 7, []), (0, 4, 4, [])], none, false, 7, 0, 0, [], [], (5708990770823839524233143877797980545530986496, [(13, 8), (13, 9), (13, 11), (13, 12), (13, 13), (13, 14), (13, 15)], [(20, [0, 0], [30, 0, 1, 1, 15, -1, 1, 11]), (20, [0], [50, 3, 0, 12, 11, 15, 2, 21, 4, 7, 1, 3, 2, 0, 12, 0, 1, 0, 3, 2, 0, 11, 4, 3, 2, 0, 15, 0, 8, 3, 7, 1, 3, 2, 0, 12, 0, 0, 0, 7, 4, 3, 2, 0, 15, 0, 1, 2, 0, 11]), (20, [3, 0], [30, 0, 1, 0, 0, -1, 1, 11]), (20, [1, 0], [50, 1, 1, 1005, 1002, 0, 6, 4, 2, 1, 0, 0, 1, 3, 1, 2, 4, 3, 2, 1, 5, 0, 2])], [(20, [0, 0], [30, 0, 1, 1, 15, -1, 1, 11]), (20, [0], [50, 3, 0, 12, 11, 15, 2, 21, 4, 7, 1, 3, 2, 0, 12, 0, 1, 0, 3, 2, 0, 11, 4, 3, 2, 0, 15, 0, 8, 3, 7, 1, 3, 2, 0, 12, 0, 0, 0, 7, 4, 3, 2, 0, 15, 0, 1, 2, 0, 11]), (20, [3, 0], [30, 0, 1, 0, 0, -1, 1, 11]), (20, [0, 3], [50, 2, 0, 8, 11, 3, 7, 0, 2, 0, 1, 2, 0, 8, 0, 6, 4, 2, 1, 1, 0, 1, 2, 0, 11]), (20, [1, 0], [50, 1, 1, 1005, 1002, 0, 6, 4, 2, 1, 0, 0, 1, 3, 1, 2, 4, 3, 2, 1, 5, 0, 2])], [(0, 0, 2000, [])]))
abbrev b_Mo_item_at_k0 : ByteArray := prog_15_method_37_code
def y_Mo_item_at_k0 : MethodName := ⟨"DrawingHouseModel", "item", "(II)V"⟩
abbrev z_Mo_item_at_k0 : List Cond := Cond.code y_Mo_item_at_k0 b_Mo_item_at_k0 5 none :: lw_g
def e_Mo_item_at_k0 : en_T := ([(2, 0, 0, [150]), (0, 0, 0, []), (0, 0, 0, [])], none, false, 20, 0, 0, [], [], (5708990770823839524233143877797980545530986496, [(13, 8), (13, 9), (13, 11), (13, 12), (13, 13), (13, 14), (13, 15)], [(20, [0, 0], [30, 0, 1, 1, 15, -1, 1, 11]), (20, [0], [50, 3, 0, 12, 11, 15, 2, 21, 4, 7, 1, 3, 2, 0, 12, 0, 1, 0, 3, 2, 0, 11, 4, 3, 2, 0, 15, 0, 8, 3, 7, 1, 3, 2, 0, 12, 0, 0, 0, 7, 4, 3, 2, 0, 15, 0, 1, 2, 0, 11]), (20, [3, 0], [30, 0, 1, 0, 0, -1, 1, 11]), (20, [1, 0], [50, 1, 1, 1005, 1002, 0, 6, 4, 2, 1, 0, 0, 1, 3, 1, 2, 4, 3, 2, 1, 5, 0, 2])], [(20, [0, 0], [30, 0, 1, 1, 15, -1, 1, 11]), (20, [0], [50, 3, 0, 12, 11, 15, 2, 21, 4, 7, 1, 3, 2, 0, 12, 0, 1, 0, 3, 2, 0, 11, 4, 3, 2, 0, 15, 0, 8, 3, 7, 1, 3, 2, 0, 12, 0, 0, 0, 7, 4, 3, 2, 0, 15, 0, 1, 2, 0, 11]), (20, [3, 0], [30, 0, 1, 0, 0, -1, 1, 11]), (20, [0, 3], [50, 2, 0, 8, 11, 3, 7, 0, 2, 0, 1, 2, 0, 8, 0, 6, 4, 2, 1, 1, 0, 1, 2, 0, 11]), (20, [1, 0], [50, 1, 1, 1005, 1002, 0, 6, 4, 2, 1, 0, 0, 1, 3, 1, 2, 4, 3, 2, 1, 5, 0, 2])], [(0, 0, 2000, [])]))
abbrev b_Mo_item_at_k1 : ByteArray := prog_15_method_37_code
def y_Mo_item_at_k1 : MethodName := ⟨"DrawingHouseModel", "item", "(II)V"⟩
abbrev z_Mo_item_at_k1 : List Cond := Cond.code y_Mo_item_at_k1 b_Mo_item_at_k1 5 none :: lw_g
def e_Mo_item_at_k1 : en_T := ([(2, 0, 0, [150]), (0, 0, 7, []), (0, 1, 1, [])], none, false, 18, 0, 0, [], [], (5708990770823839524233143877797980545530986496, [(13, 8), (13, 9), (13, 11), (13, 12), (13, 13), (13, 14), (13, 15)], [(20, [0, 0], [30, 0, 1, 1, 15, -1, 1, 11]), (20, [0], [50, 3, 0, 12, 11, 15, 2, 21, 4, 7, 1, 3, 2, 0, 12, 0, 1, 0, 3, 2, 0, 11, 4, 3, 2, 0, 15, 0, 8, 3, 7, 1, 3, 2, 0, 12, 0, 0, 0, 7, 4, 3, 2, 0, 15, 0, 1, 2, 0, 11]), (20, [3, 0], [30, 0, 1, 0, 0, -1, 1, 11]), (20, [1, 0], [50, 1, 1, 1005, 1002, 0, 6, 4, 2, 1, 0, 0, 1, 3, 1, 2, 4, 3, 2, 1, 5, 0, 2])], [(20, [0, 0], [30, 0, 1, 1, 15, -1, 1, 11]), (20, [0], [50, 3, 0, 12, 11, 15, 2, 21, 4, 7, 1, 3, 2, 0, 12, 0, 1, 0, 3, 2, 0, 11, 4, 3, 2, 0, 15, 0, 8, 3, 7, 1, 3, 2, 0, 12, 0, 0, 0, 7, 4, 3, 2, 0, 15, 0, 1, 2, 0, 11]), (20, [3, 0], [30, 0, 1, 0, 0, -1, 1, 11]), (20, [0, 3], [50, 2, 0, 8, 11, 3, 7, 0, 2, 0, 1, 2, 0, 8, 0, 6, 4, 2, 1, 1, 0, 1, 2, 0, 11]), (20, [1, 0], [50, 1, 1, 1005, 1002, 0, 6, 4, 2, 1, 0, 0, 1, 3, 1, 2, 4, 3, 2, 1, 5, 0, 2])], [(0, 0, 2000, [])]))
abbrev b_Mo_item_at_k2 : ByteArray := prog_15_method_37_code
def y_Mo_item_at_k2 : MethodName := ⟨"DrawingHouseModel", "item", "(II)V"⟩
abbrev z_Mo_item_at_k2 : List Cond := Cond.code y_Mo_item_at_k2 b_Mo_item_at_k2 5 none :: lw_g
def e_Mo_item_at_k2 : en_T := ([(2, 0, 0, [150]), (0, 0, 7, []), (0, 2, 2, [])], none, false, 16, 0, 0, [], [], (5708990770823839524233143877797980545530986496, [(13, 8), (13, 9), (13, 11), (13, 12), (13, 13), (13, 14), (13, 15)], [(20, [0, 0], [30, 0, 1, 1, 15, -1, 1, 11]), (20, [0], [50, 3, 0, 12, 11, 15, 2, 21, 4, 7, 1, 3, 2, 0, 12, 0, 1, 0, 3, 2, 0, 11, 4, 3, 2, 0, 15, 0, 8, 3, 7, 1, 3, 2, 0, 12, 0, 0, 0, 7, 4, 3, 2, 0, 15, 0, 1, 2, 0, 11]), (20, [3, 0], [30, 0, 1, 0, 0, -1, 1, 11]), (20, [1, 0], [50, 1, 1, 1005, 1002, 0, 6, 4, 2, 1, 0, 0, 1, 3, 1, 2, 4, 3, 2, 1, 5, 0, 2])], [(20, [0, 0], [30, 0, 1, 1, 15, -1, 1, 11]), (20, [0], [50, 3, 0, 12, 11, 15, 2, 21, 4, 7, 1, 3, 2, 0, 12, 0, 1, 0, 3, 2, 0, 11, 4, 3, 2, 0, 15, 0, 8, 3, 7, 1, 3, 2, 0, 12, 0, 0, 0, 7, 4, 3, 2, 0, 15, 0, 1, 2, 0, 11]), (20, [3, 0], [30, 0, 1, 0, 0, -1, 1, 11]), (20, [0, 3], [50, 2, 0, 8, 11, 3, 7, 0, 2, 0, 1, 2, 0, 8, 0, 6, 4, 2, 1, 1, 0, 1, 2, 0, 11]), (20, [1, 0], [50, 1, 1, 1005, 1002, 0, 6, 4, 2, 1, 0, 0, 1, 3, 1, 2, 4, 3, 2, 1, 5, 0, 2])], [(0, 0, 2000, [])]))
abbrev b_Mo_item_at_k3 : ByteArray := prog_15_method_37_code
def y_Mo_item_at_k3 : MethodName := ⟨"DrawingHouseModel", "item", "(II)V"⟩
abbrev z_Mo_item_at_k3 : List Cond := Cond.code y_Mo_item_at_k3 b_Mo_item_at_k3 5 none :: lw_g
def e_Mo_item_at_k3 : en_T := ([(2, 0, 0, [150]), (0, 0, 7, []), (0, 3, 3, [])], none, false, 14, 0, 0, [], [], (5708990770823839524233143877797980545530986496, [(13, 8), (13, 9), (13, 11), (13, 12), (13, 13), (13, 14), (13, 15)], [(20, [0, 0], [30, 0, 1, 1, 15, -1, 1, 11]), (20, [0], [50, 3, 0, 12, 11, 15, 2, 21, 4, 7, 1, 3, 2, 0, 12, 0, 1, 0, 3, 2, 0, 11, 4, 3, 2, 0, 15, 0, 8, 3, 7, 1, 3, 2, 0, 12, 0, 0, 0, 7, 4, 3, 2, 0, 15, 0, 1, 2, 0, 11]), (20, [3, 0], [30, 0, 1, 0, 0, -1, 1, 11]), (20, [1, 0], [50, 1, 1, 1005, 1002, 0, 6, 4, 2, 1, 0, 0, 1, 3, 1, 2, 4, 3, 2, 1, 5, 0, 2])], [(20, [0, 0], [30, 0, 1, 1, 15, -1, 1, 11]), (20, [0], [50, 3, 0, 12, 11, 15, 2, 21, 4, 7, 1, 3, 2, 0, 12, 0, 1, 0, 3, 2, 0, 11, 4, 3, 2, 0, 15, 0, 8, 3, 7, 1, 3, 2, 0, 12, 0, 0, 0, 7, 4, 3, 2, 0, 15, 0, 1, 2, 0, 11]), (20, [3, 0], [30, 0, 1, 0, 0, -1, 1, 11]), (20, [0, 3], [50, 2, 0, 8, 11, 3, 7, 0, 2, 0, 1, 2, 0, 8, 0, 6, 4, 2, 1, 1, 0, 1, 2, 0, 11]), (20, [1, 0], [50, 1, 1, 1005, 1002, 0, 6, 4, 2, 1, 0, 0, 1, 3, 1, 2, 4, 3, 2, 1, 5, 0, 2])], [(0, 0, 2000, [])]))
abbrev b_Mo_item_at_k4 : ByteArray := prog_15_method_37_code
def y_Mo_item_at_k4 : MethodName := ⟨"DrawingHouseModel", "item", "(II)V"⟩
abbrev z_Mo_item_at_k4 : List Cond := Cond.code y_Mo_item_at_k4 b_Mo_item_at_k4 5 none :: lw_g
def e_Mo_item_at_k4 : en_T := ([(2, 0, 0, [150]), (0, 0, 7, []), (0, 4, 4, [])], none, false, 12, 0, 0, [], [], (5708990770823839524233143877797980545530986496, [(13, 8), (13, 9), (13, 11), (13, 12), (13, 13), (13, 14), (13, 15)], [(20, [0, 0], [30, 0, 1, 1, 15, -1, 1, 11]), (20, [0], [50, 3, 0, 12, 11, 15, 2, 21, 4, 7, 1, 3, 2, 0, 12, 0, 1, 0, 3, 2, 0, 11, 4, 3, 2, 0, 15, 0, 8, 3, 7, 1, 3, 2, 0, 12, 0, 0, 0, 7, 4, 3, 2, 0, 15, 0, 1, 2, 0, 11]), (20, [3, 0], [30, 0, 1, 0, 0, -1, 1, 11]), (20, [1, 0], [50, 1, 1, 1005, 1002, 0, 6, 4, 2, 1, 0, 0, 1, 3, 1, 2, 4, 3, 2, 1, 5, 0, 2])], [(20, [0, 0], [30, 0, 1, 1, 15, -1, 1, 11]), (20, [0], [50, 3, 0, 12, 11, 15, 2, 21, 4, 7, 1, 3, 2, 0, 12, 0, 1, 0, 3, 2, 0, 11, 4, 3, 2, 0, 15, 0, 8, 3, 7, 1, 3, 2, 0, 12, 0, 0, 0, 7, 4, 3, 2, 0, 15, 0, 1, 2, 0, 11]), (20, [3, 0], [30, 0, 1, 0, 0, -1, 1, 11]), (20, [0, 3], [50, 2, 0, 8, 11, 3, 7, 0, 2, 0, 1, 2, 0, 8, 0, 6, 4, 2, 1, 1, 0, 1, 2, 0, 11]), (20, [1, 0], [50, 1, 1, 1005, 1002, 0, 6, 4, 2, 1, 0, 0, 1, 3, 1, 2, 4, 3, 2, 1, 5, 0, 2])], [(0, 0, 2000, [])]))
abbrev b_Mo_product_at_f0 : ByteArray := prog_15_method_225_code
def y_Mo_product_at_f0 : MethodName := ⟨"DrawingHouseModel", "product", "()J"⟩
abbrev z_Mo_product_at_f0 : List Cond := Cond.code y_Mo_product_at_f0 b_Mo_product_at_f0 6 (some .long) :: lw_g
def e_Mo_product_at_f0 : en_T := ([(2, 0, 0, [150])], some (1, -9223372036854775808, 9223372036854775807, []), false, 46, 0, 0, [], [], (0, [(13, 8), (13, 9), (13, 158), (13, 159)], [(20, [0], [50, 2, 1, 158, 157, 160, 2, 12, 0, 7, 4, 3, 2, 0, 158, 0, 1, 2, 0, 157, 2, 7, 0, 3, 2, 0, 157, 0, 2010, 3, 14, 1, 10, 3, 0, 160, 5, 3, 2, 0, 157, 0, 1, 0, 0, 1, 10, 3, 0, 160, 5, 3, 2, 0, 157, 0, 1, 0, 4]), (20, [0, 1], [30, 0, 1, 1, 158, -1, 0, 0]), (20, [0, 1], [30, 0, -1, 1, 158, 1, 0, 0]), (20, [0], [50, 2, 0, 164, 165, 4, 7, 1, 3, 2, 0, 164, 0, 0, 0, 3, 2, 0, 165, 0, 23]), (20, [0], [30, 0, 1, 1, 159]), (20, [0], [30, 0, -1, 1, 159])], [(20, [0], [50, 2, 1, 158, 157, 160, 2, 12, 0, 7, 4, 3, 2, 0, 158, 0, 1, 2, 0, 157, 2, 7, 0, 3, 2, 0, 157, 0, 2010, 3, 14, 1, 10, 3, 0, 160, 5, 3, 2, 0, 157, 0, 1, 0, 0, 1, 10, 3, 0, 160, 5, 3, 2, 0, 157, 0, 1, 0, 4]), (20, [1, 0], [30, 0, 1, 0, 0, -1, 1, 158]), (20, [0], [30, 0, 1, 1, 159]), (20, [0], [30, 0, -1, 1, 159])], [(0, 0, 2009, [])]))
abbrev b_Mo_product_at_f1 : ByteArray := prog_15_method_225_code
def y_Mo_product_at_f1 : MethodName := ⟨"DrawingHouseModel", "product", "()J"⟩
abbrev z_Mo_product_at_f1 : List Cond := Cond.code y_Mo_product_at_f1 b_Mo_product_at_f1 6 (some .long) :: lw_g
def e_Mo_product_at_f1 : en_T := ([(2, 0, 0, [150])], some (1, -9223372036854775808, 9223372036854775807, []), false, 43, 0, 0, [], [], (0, [(13, 8), (13, 9), (13, 158), (13, 159)], [(20, [0], [50, 2, 1, 158, 157, 160, 2, 12, 0, 7, 4, 3, 2, 0, 158, 0, 1, 2, 0, 157, 2, 7, 0, 3, 2, 0, 157, 0, 2010, 3, 14, 1, 10, 3, 0, 160, 5, 3, 2, 0, 157, 0, 1, 0, 0, 1, 10, 3, 0, 160, 5, 3, 2, 0, 157, 0, 1, 0, 4]), (20, [0, 1], [30, 0, 1, 1, 158, -1, 0, 0]), (20, [0, 1], [30, 0, -1, 1, 158, 1, 0, 0]), (20, [0], [50, 2, 0, 164, 165, 4, 7, 1, 3, 2, 0, 164, 0, 0, 0, 3, 2, 0, 165, 0, 23]), (20, [0], [30, 1, 1, 1, 159]), (20, [0], [30, -1, -1, 1, 159])], [(20, [0], [50, 2, 1, 158, 157, 160, 2, 12, 0, 7, 4, 3, 2, 0, 158, 0, 1, 2, 0, 157, 2, 7, 0, 3, 2, 0, 157, 0, 2010, 3, 14, 1, 10, 3, 0, 160, 5, 3, 2, 0, 157, 0, 1, 0, 0, 1, 10, 3, 0, 160, 5, 3, 2, 0, 157, 0, 1, 0, 4]), (20, [1, 0], [30, 0, 1, 0, 0, -1, 1, 158]), (20, [0], [30, 1, 1, 1, 159]), (20, [0], [30, -1, -1, 1, 159])], [(0, 0, 2009, [])]))
abbrev b_Mo_product_at_f10 : ByteArray := prog_15_method_225_code
def y_Mo_product_at_f10 : MethodName := ⟨"DrawingHouseModel", "product", "()J"⟩
abbrev z_Mo_product_at_f10 : List Cond := Cond.code y_Mo_product_at_f10 b_Mo_product_at_f10 6 (some .long) :: lw_g
def e_Mo_product_at_f10 : en_T := ([(2, 0, 0, [150])], some (1, -9223372036854775808, 9223372036854775807, []), false, 16, 0, 0, [], [], (0, [(13, 8), (13, 9), (13, 158), (13, 159)], [(20, [0], [50, 2, 1, 158, 157, 160, 2, 12, 0, 7, 4, 3, 2, 0, 158, 0, 1, 2, 0, 157, 2, 7, 0, 3, 2, 0, 157, 0, 2010, 3, 14, 1, 10, 3, 0, 160, 5, 3, 2, 0, 157, 0, 1, 0, 0, 1, 10, 3, 0, 160, 5, 3, 2, 0, 157, 0, 1, 0, 4]), (20, [0, 1], [30, 0, 1, 1, 158, -1, 0, 0]), (20, [0, 1], [30, 0, -1, 1, 158, 1, 0, 0]), (20, [0], [50, 2, 0, 164, 165, 4, 7, 1, 3, 2, 0, 164, 0, 0, 0, 3, 2, 0, 165, 0, 23]), (20, [0], [30, 10, 1, 1, 159]), (20, [0], [30, -10, -1, 1, 159])], [(20, [0], [50, 2, 1, 158, 157, 160, 2, 12, 0, 7, 4, 3, 2, 0, 158, 0, 1, 2, 0, 157, 2, 7, 0, 3, 2, 0, 157, 0, 2010, 3, 14, 1, 10, 3, 0, 160, 5, 3, 2, 0, 157, 0, 1, 0, 0, 1, 10, 3, 0, 160, 5, 3, 2, 0, 157, 0, 1, 0, 4]), (20, [1, 0], [30, 0, 1, 0, 0, -1, 1, 158]), (20, [0], [30, 10, 1, 1, 159]), (20, [0], [30, -10, -1, 1, 159])], [(0, 0, 2009, [])]))
abbrev b_Mo_product_at_f11 : ByteArray := prog_15_method_225_code
def y_Mo_product_at_f11 : MethodName := ⟨"DrawingHouseModel", "product", "()J"⟩
abbrev z_Mo_product_at_f11 : List Cond := Cond.code y_Mo_product_at_f11 b_Mo_product_at_f11 6 (some .long) :: lw_g
def e_Mo_product_at_f11 : en_T := ([(2, 0, 0, [150])], some (1, -9223372036854775808, 9223372036854775807, []), false, 13, 0, 0, [], [], (0, [(13, 8), (13, 9), (13, 158), (13, 159)], [(20, [0], [50, 2, 1, 158, 157, 160, 2, 12, 0, 7, 4, 3, 2, 0, 158, 0, 1, 2, 0, 157, 2, 7, 0, 3, 2, 0, 157, 0, 2010, 3, 14, 1, 10, 3, 0, 160, 5, 3, 2, 0, 157, 0, 1, 0, 0, 1, 10, 3, 0, 160, 5, 3, 2, 0, 157, 0, 1, 0, 4]), (20, [0, 1], [30, 0, 1, 1, 158, -1, 0, 0]), (20, [0, 1], [30, 0, -1, 1, 158, 1, 0, 0]), (20, [0], [50, 2, 0, 164, 165, 4, 7, 1, 3, 2, 0, 164, 0, 0, 0, 3, 2, 0, 165, 0, 23]), (20, [0], [30, 11, 1, 1, 159]), (20, [0], [30, -11, -1, 1, 159])], [(20, [0], [50, 2, 1, 158, 157, 160, 2, 12, 0, 7, 4, 3, 2, 0, 158, 0, 1, 2, 0, 157, 2, 7, 0, 3, 2, 0, 157, 0, 2010, 3, 14, 1, 10, 3, 0, 160, 5, 3, 2, 0, 157, 0, 1, 0, 0, 1, 10, 3, 0, 160, 5, 3, 2, 0, 157, 0, 1, 0, 4]), (20, [1, 0], [30, 0, 1, 0, 0, -1, 1, 158]), (20, [0], [30, 11, 1, 1, 159]), (20, [0], [30, -11, -1, 1, 159])], [(0, 0, 2009, [])]))
abbrev b_Mo_product_at_f12 : ByteArray := prog_15_method_225_code
def y_Mo_product_at_f12 : MethodName := ⟨"DrawingHouseModel", "product", "()J"⟩
abbrev z_Mo_product_at_f12 : List Cond := Cond.code y_Mo_product_at_f12 b_Mo_product_at_f12 6 (some .long) :: lw_g
def e_Mo_product_at_f12 : en_T := ([(2, 0, 0, [150])], some (1, -9223372036854775808, 9223372036854775807, []), false, 10, 0, 0, [], [], (0, [(13, 8), (13, 9), (13, 158), (13, 159)], [(20, [0], [50, 2, 1, 158, 157, 160, 2, 12, 0, 7, 4, 3, 2, 0, 158, 0, 1, 2, 0, 157, 2, 7, 0, 3, 2, 0, 157, 0, 2010, 3, 14, 1, 10, 3, 0, 160, 5, 3, 2, 0, 157, 0, 1, 0, 0, 1, 10, 3, 0, 160, 5, 3, 2, 0, 157, 0, 1, 0, 4]), (20, [0, 1], [30, 0, 1, 1, 158, -1, 0, 0]), (20, [0, 1], [30, 0, -1, 1, 158, 1, 0, 0]), (20, [0], [50, 2, 0, 164, 165, 4, 7, 1, 3, 2, 0, 164, 0, 0, 0, 3, 2, 0, 165, 0, 23]), (20, [0], [30, 12, 1, 1, 159]), (20, [0], [30, -12, -1, 1, 159])], [(20, [0], [50, 2, 1, 158, 157, 160, 2, 12, 0, 7, 4, 3, 2, 0, 158, 0, 1, 2, 0, 157, 2, 7, 0, 3, 2, 0, 157, 0, 2010, 3, 14, 1, 10, 3, 0, 160, 5, 3, 2, 0, 157, 0, 1, 0, 0, 1, 10, 3, 0, 160, 5, 3, 2, 0, 157, 0, 1, 0, 4]), (20, [1, 0], [30, 0, 1, 0, 0, -1, 1, 158]), (20, [0], [30, 12, 1, 1, 159]), (20, [0], [30, -12, -1, 1, 159])], [(0, 0, 2009, [])]))
abbrev b_Mo_product_at_f13 : ByteArray := prog_15_method_225_code
def y_Mo_product_at_f13 : MethodName := ⟨"DrawingHouseModel", "product", "()J"⟩
abbrev z_Mo_product_at_f13 : List Cond := Cond.code y_Mo_product_at_f13 b_Mo_product_at_f13 6 (some .long) :: lw_g
def e_Mo_product_at_f13 : en_T := ([(2, 0, 0, [150])], some (1, 0, 0, []), false, 7, 0, 0, [], [], (0, [(13, 8), (13, 9), (13, 158), (13, 159)], [(20, [0], [50, 2, 1, 158, 157, 160, 2, 12, 0, 7, 4, 3, 2, 0, 158, 0, 1, 2, 0, 157, 2, 7, 0, 3, 2, 0, 157, 0, 2010, 3, 14, 1, 10, 3, 0, 160, 5, 3, 2, 0, 157, 0, 1, 0, 0, 1, 10, 3, 0, 160, 5, 3, 2, 0, 157, 0, 1, 0, 4]), (20, [0, 1], [30, 0, 1, 1, 158, -1, 0, 0]), (20, [0, 1], [30, 0, -1, 1, 158, 1, 0, 0]), (20, [0], [50, 2, 0, 164, 165, 4, 7, 1, 3, 2, 0, 164, 0, 0, 0, 3, 2, 0, 165, 0, 23]), (20, [0], [30, 13, 1, 1, 159]), (20, [0], [30, -13, -1, 1, 159]), (20, [0], [30, -1, -1, 1, 8])], [(20, [0], [50, 2, 1, 158, 157, 160, 2, 12, 0, 7, 4, 3, 2, 0, 158, 0, 1, 2, 0, 157, 2, 7, 0, 3, 2, 0, 157, 0, 2010, 3, 14, 1, 10, 3, 0, 160, 5, 3, 2, 0, 157, 0, 1, 0, 0, 1, 10, 3, 0, 160, 5, 3, 2, 0, 157, 0, 1, 0, 4]), (20, [1, 0], [30, 0, 1, 0, 0, -1, 1, 158]), (20, [0], [30, 13, 1, 1, 159]), (20, [0], [30, -13, -1, 1, 159]), (20, [0], [30, -1, -1, 1, 8])], [(0, 0, 2009, [])]))
abbrev b_Mo_product_at_f2 : ByteArray := prog_15_method_225_code
def y_Mo_product_at_f2 : MethodName := ⟨"DrawingHouseModel", "product", "()J"⟩
abbrev z_Mo_product_at_f2 : List Cond := Cond.code y_Mo_product_at_f2 b_Mo_product_at_f2 6 (some .long) :: lw_g
def e_Mo_product_at_f2 : en_T := ([(2, 0, 0, [150])], some (1, -9223372036854775808, 9223372036854775807, []), false, 40, 0, 0, [], [], (0, [(13, 8), (13, 9), (13, 158), (13, 159)], [(20, [0], [50, 2, 1, 158, 157, 160, 2, 12, 0, 7, 4, 3, 2, 0, 158, 0, 1, 2, 0, 157, 2, 7, 0, 3, 2, 0, 157, 0, 2010, 3, 14, 1, 10, 3, 0, 160, 5, 3, 2, 0, 157, 0, 1, 0, 0, 1, 10, 3, 0, 160, 5, 3, 2, 0, 157, 0, 1, 0, 4]), (20, [0, 1], [30, 0, 1, 1, 158, -1, 0, 0]), (20, [0, 1], [30, 0, -1, 1, 158, 1, 0, 0]), (20, [0], [50, 2, 0, 164, 165, 4, 7, 1, 3, 2, 0, 164, 0, 0, 0, 3, 2, 0, 165, 0, 23]), (20, [0], [30, 2, 1, 1, 159]), (20, [0], [30, -2, -1, 1, 159])], [(20, [0], [50, 2, 1, 158, 157, 160, 2, 12, 0, 7, 4, 3, 2, 0, 158, 0, 1, 2, 0, 157, 2, 7, 0, 3, 2, 0, 157, 0, 2010, 3, 14, 1, 10, 3, 0, 160, 5, 3, 2, 0, 157, 0, 1, 0, 0, 1, 10, 3, 0, 160, 5, 3, 2, 0, 157, 0, 1, 0, 4]), (20, [1, 0], [30, 0, 1, 0, 0, -1, 1, 158]), (20, [0], [30, 2, 1, 1, 159]), (20, [0], [30, -2, -1, 1, 159])], [(0, 0, 2009, [])]))
abbrev b_Mo_product_at_f3 : ByteArray := prog_15_method_225_code
def y_Mo_product_at_f3 : MethodName := ⟨"DrawingHouseModel", "product", "()J"⟩
abbrev z_Mo_product_at_f3 : List Cond := Cond.code y_Mo_product_at_f3 b_Mo_product_at_f3 6 (some .long) :: lw_g
def e_Mo_product_at_f3 : en_T := ([(2, 0, 0, [150])], some (1, -9223372036854775808, 9223372036854775807, []), false, 37, 0, 0, [], [], (0, [(13, 8), (13, 9), (13, 158), (13, 159)], [(20, [0], [50, 2, 1, 158, 157, 160, 2, 12, 0, 7, 4, 3, 2, 0, 158, 0, 1, 2, 0, 157, 2, 7, 0, 3, 2, 0, 157, 0, 2010, 3, 14, 1, 10, 3, 0, 160, 5, 3, 2, 0, 157, 0, 1, 0, 0, 1, 10, 3, 0, 160, 5, 3, 2, 0, 157, 0, 1, 0, 4]), (20, [0, 1], [30, 0, 1, 1, 158, -1, 0, 0]), (20, [0, 1], [30, 0, -1, 1, 158, 1, 0, 0]), (20, [0], [50, 2, 0, 164, 165, 4, 7, 1, 3, 2, 0, 164, 0, 0, 0, 3, 2, 0, 165, 0, 23]), (20, [0], [30, 3, 1, 1, 159]), (20, [0], [30, -3, -1, 1, 159])], [(20, [0], [50, 2, 1, 158, 157, 160, 2, 12, 0, 7, 4, 3, 2, 0, 158, 0, 1, 2, 0, 157, 2, 7, 0, 3, 2, 0, 157, 0, 2010, 3, 14, 1, 10, 3, 0, 160, 5, 3, 2, 0, 157, 0, 1, 0, 0, 1, 10, 3, 0, 160, 5, 3, 2, 0, 157, 0, 1, 0, 4]), (20, [1, 0], [30, 0, 1, 0, 0, -1, 1, 158]), (20, [0], [30, 3, 1, 1, 159]), (20, [0], [30, -3, -1, 1, 159])], [(0, 0, 2009, [])]))
abbrev b_Mo_product_at_f4 : ByteArray := prog_15_method_225_code
def y_Mo_product_at_f4 : MethodName := ⟨"DrawingHouseModel", "product", "()J"⟩
abbrev z_Mo_product_at_f4 : List Cond := Cond.code y_Mo_product_at_f4 b_Mo_product_at_f4 6 (some .long) :: lw_g
def e_Mo_product_at_f4 : en_T := ([(2, 0, 0, [150])], some (1, -9223372036854775808, 9223372036854775807, []), false, 34, 0, 0, [], [], (0, [(13, 8), (13, 9), (13, 158), (13, 159)], [(20, [0], [50, 2, 1, 158, 157, 160, 2, 12, 0, 7, 4, 3, 2, 0, 158, 0, 1, 2, 0, 157, 2, 7, 0, 3, 2, 0, 157, 0, 2010, 3, 14, 1, 10, 3, 0, 160, 5, 3, 2, 0, 157, 0, 1, 0, 0, 1, 10, 3, 0, 160, 5, 3, 2, 0, 157, 0, 1, 0, 4]), (20, [0, 1], [30, 0, 1, 1, 158, -1, 0, 0]), (20, [0, 1], [30, 0, -1, 1, 158, 1, 0, 0]), (20, [0], [50, 2, 0, 164, 165, 4, 7, 1, 3, 2, 0, 164, 0, 0, 0, 3, 2, 0, 165, 0, 23]), (20, [0], [30, 4, 1, 1, 159]), (20, [0], [30, -4, -1, 1, 159])], [(20, [0], [50, 2, 1, 158, 157, 160, 2, 12, 0, 7, 4, 3, 2, 0, 158, 0, 1, 2, 0, 157, 2, 7, 0, 3, 2, 0, 157, 0, 2010, 3, 14, 1, 10, 3, 0, 160, 5, 3, 2, 0, 157, 0, 1, 0, 0, 1, 10, 3, 0, 160, 5, 3, 2, 0, 157, 0, 1, 0, 4]), (20, [1, 0], [30, 0, 1, 0, 0, -1, 1, 158]), (20, [0], [30, 4, 1, 1, 159]), (20, [0], [30, -4, -1, 1, 159])], [(0, 0, 2009, [])]))
abbrev b_Mo_product_at_f5 : ByteArray := prog_15_method_225_code
def y_Mo_product_at_f5 : MethodName := ⟨"DrawingHouseModel", "product", "()J"⟩
abbrev z_Mo_product_at_f5 : List Cond := Cond.code y_Mo_product_at_f5 b_Mo_product_at_f5 6 (some .long) :: lw_g
def e_Mo_product_at_f5 : en_T := ([(2, 0, 0, [150])], some (1, -9223372036854775808, 9223372036854775807, []), false, 31, 0, 0, [], [], (0, [(13, 8), (13, 9), (13, 158), (13, 159)], [(20, [0], [50, 2, 1, 158, 157, 160, 2, 12, 0, 7, 4, 3, 2, 0, 158, 0, 1, 2, 0, 157, 2, 7, 0, 3, 2, 0, 157, 0, 2010, 3, 14, 1, 10, 3, 0, 160, 5, 3, 2, 0, 157, 0, 1, 0, 0, 1, 10, 3, 0, 160, 5, 3, 2, 0, 157, 0, 1, 0, 4]), (20, [0, 1], [30, 0, 1, 1, 158, -1, 0, 0]), (20, [0, 1], [30, 0, -1, 1, 158, 1, 0, 0]), (20, [0], [50, 2, 0, 164, 165, 4, 7, 1, 3, 2, 0, 164, 0, 0, 0, 3, 2, 0, 165, 0, 23]), (20, [0], [30, 5, 1, 1, 159]), (20, [0], [30, -5, -1, 1, 159])], [(20, [0], [50, 2, 1, 158, 157, 160, 2, 12, 0, 7, 4, 3, 2, 0, 158, 0, 1, 2, 0, 157, 2, 7, 0, 3, 2, 0, 157, 0, 2010, 3, 14, 1, 10, 3, 0, 160, 5, 3, 2, 0, 157, 0, 1, 0, 0, 1, 10, 3, 0, 160, 5, 3, 2, 0, 157, 0, 1, 0, 4]), (20, [1, 0], [30, 0, 1, 0, 0, -1, 1, 158]), (20, [0], [30, 5, 1, 1, 159]), (20, [0], [30, -5, -1, 1, 159])], [(0, 0, 2009, [])]))
abbrev b_Mo_product_at_f6 : ByteArray := prog_15_method_225_code
def y_Mo_product_at_f6 : MethodName := ⟨"DrawingHouseModel", "product", "()J"⟩
abbrev z_Mo_product_at_f6 : List Cond := Cond.code y_Mo_product_at_f6 b_Mo_product_at_f6 6 (some .long) :: lw_g
def e_Mo_product_at_f6 : en_T := ([(2, 0, 0, [150])], some (1, -9223372036854775808, 9223372036854775807, []), false, 28, 0, 0, [], [], (0, [(13, 8), (13, 9), (13, 158), (13, 159)], [(20, [0], [50, 2, 1, 158, 157, 160, 2, 12, 0, 7, 4, 3, 2, 0, 158, 0, 1, 2, 0, 157, 2, 7, 0, 3, 2, 0, 157, 0, 2010, 3, 14, 1, 10, 3, 0, 160, 5, 3, 2, 0, 157, 0, 1, 0, 0, 1, 10, 3, 0, 160, 5, 3, 2, 0, 157, 0, 1, 0, 4]), (20, [0, 1], [30, 0, 1, 1, 158, -1, 0, 0]), (20, [0, 1], [30, 0, -1, 1, 158, 1, 0, 0]), (20, [0], [50, 2, 0, 164, 165, 4, 7, 1, 3, 2, 0, 164, 0, 0, 0, 3, 2, 0, 165, 0, 23]), (20, [0], [30, 6, 1, 1, 159]), (20, [0], [30, -6, -1, 1, 159])], [(20, [0], [50, 2, 1, 158, 157, 160, 2, 12, 0, 7, 4, 3, 2, 0, 158, 0, 1, 2, 0, 157, 2, 7, 0, 3, 2, 0, 157, 0, 2010, 3, 14, 1, 10, 3, 0, 160, 5, 3, 2, 0, 157, 0, 1, 0, 0, 1, 10, 3, 0, 160, 5, 3, 2, 0, 157, 0, 1, 0, 4]), (20, [1, 0], [30, 0, 1, 0, 0, -1, 1, 158]), (20, [0], [30, 6, 1, 1, 159]), (20, [0], [30, -6, -1, 1, 159])], [(0, 0, 2009, [])]))
abbrev b_Mo_product_at_f7 : ByteArray := prog_15_method_225_code
def y_Mo_product_at_f7 : MethodName := ⟨"DrawingHouseModel", "product", "()J"⟩
abbrev z_Mo_product_at_f7 : List Cond := Cond.code y_Mo_product_at_f7 b_Mo_product_at_f7 6 (some .long) :: lw_g
def e_Mo_product_at_f7 : en_T := ([(2, 0, 0, [150])], some (1, -9223372036854775808, 9223372036854775807, []), false, 25, 0, 0, [], [], (0, [(13, 8), (13, 9), (13, 158), (13, 159)], [(20, [0], [50, 2, 1, 158, 157, 160, 2, 12, 0, 7, 4, 3, 2, 0, 158, 0, 1, 2, 0, 157, 2, 7, 0, 3, 2, 0, 157, 0, 2010, 3, 14, 1, 10, 3, 0, 160, 5, 3, 2, 0, 157, 0, 1, 0, 0, 1, 10, 3, 0, 160, 5, 3, 2, 0, 157, 0, 1, 0, 4]), (20, [0, 1], [30, 0, 1, 1, 158, -1, 0, 0]), (20, [0, 1], [30, 0, -1, 1, 158, 1, 0, 0]), (20, [0], [50, 2, 0, 164, 165, 4, 7, 1, 3, 2, 0, 164, 0, 0, 0, 3, 2, 0, 165, 0, 23]), (20, [0], [30, 7, 1, 1, 159]), (20, [0], [30, -7, -1, 1, 159])], [(20, [0], [50, 2, 1, 158, 157, 160, 2, 12, 0, 7, 4, 3, 2, 0, 158, 0, 1, 2, 0, 157, 2, 7, 0, 3, 2, 0, 157, 0, 2010, 3, 14, 1, 10, 3, 0, 160, 5, 3, 2, 0, 157, 0, 1, 0, 0, 1, 10, 3, 0, 160, 5, 3, 2, 0, 157, 0, 1, 0, 4]), (20, [1, 0], [30, 0, 1, 0, 0, -1, 1, 158]), (20, [0], [30, 7, 1, 1, 159]), (20, [0], [30, -7, -1, 1, 159])], [(0, 0, 2009, [])]))
abbrev b_Mo_product_at_f8 : ByteArray := prog_15_method_225_code
def y_Mo_product_at_f8 : MethodName := ⟨"DrawingHouseModel", "product", "()J"⟩
abbrev z_Mo_product_at_f8 : List Cond := Cond.code y_Mo_product_at_f8 b_Mo_product_at_f8 6 (some .long) :: lw_g
def e_Mo_product_at_f8 : en_T := ([(2, 0, 0, [150])], some (1, -9223372036854775808, 9223372036854775807, []), false, 22, 0, 0, [], [], (0, [(13, 8), (13, 9), (13, 158), (13, 159)], [(20, [0], [50, 2, 1, 158, 157, 160, 2, 12, 0, 7, 4, 3, 2, 0, 158, 0, 1, 2, 0, 157, 2, 7, 0, 3, 2, 0, 157, 0, 2010, 3, 14, 1, 10, 3, 0, 160, 5, 3, 2, 0, 157, 0, 1, 0, 0, 1, 10, 3, 0, 160, 5, 3, 2, 0, 157, 0, 1, 0, 4]), (20, [0, 1], [30, 0, 1, 1, 158, -1, 0, 0]), (20, [0, 1], [30, 0, -1, 1, 158, 1, 0, 0]), (20, [0], [50, 2, 0, 164, 165, 4, 7, 1, 3, 2, 0, 164, 0, 0, 0, 3, 2, 0, 165, 0, 23]), (20, [0], [30, 8, 1, 1, 159]), (20, [0], [30, -8, -1, 1, 159])], [(20, [0], [50, 2, 1, 158, 157, 160, 2, 12, 0, 7, 4, 3, 2, 0, 158, 0, 1, 2, 0, 157, 2, 7, 0, 3, 2, 0, 157, 0, 2010, 3, 14, 1, 10, 3, 0, 160, 5, 3, 2, 0, 157, 0, 1, 0, 0, 1, 10, 3, 0, 160, 5, 3, 2, 0, 157, 0, 1, 0, 4]), (20, [1, 0], [30, 0, 1, 0, 0, -1, 1, 158]), (20, [0], [30, 8, 1, 1, 159]), (20, [0], [30, -8, -1, 1, 159])], [(0, 0, 2009, [])]))
abbrev b_Mo_product_at_f9 : ByteArray := prog_15_method_225_code
def y_Mo_product_at_f9 : MethodName := ⟨"DrawingHouseModel", "product", "()J"⟩
abbrev z_Mo_product_at_f9 : List Cond := Cond.code y_Mo_product_at_f9 b_Mo_product_at_f9 6 (some .long) :: lw_g
def e_Mo_product_at_f9 : en_T := ([(2, 0, 0, [150])], some (1, -9223372036854775808, 9223372036854775807, []), false, 19, 0, 0, [], [], (0, [(13, 8), (13, 9), (13, 158), (13, 159)], [(20, [0], [50, 2, 1, 158, 157, 160, 2, 12, 0, 7, 4, 3, 2, 0, 158, 0, 1, 2, 0, 157, 2, 7, 0, 3, 2, 0, 157, 0, 2010, 3, 14, 1, 10, 3, 0, 160, 5, 3, 2, 0, 157, 0, 1, 0, 0, 1, 10, 3, 0, 160, 5, 3, 2, 0, 157, 0, 1, 0, 4]), (20, [0, 1], [30, 0, 1, 1, 158, -1, 0, 0]), (20, [0, 1], [30, 0, -1, 1, 158, 1, 0, 0]), (20, [0], [50, 2, 0, 164, 165, 4, 7, 1, 3, 2, 0, 164, 0, 0, 0, 3, 2, 0, 165, 0, 23]), (20, [0], [30, 9, 1, 1, 159]), (20, [0], [30, -9, -1, 1, 159])], [(20, [0], [50, 2, 1, 158, 157, 160, 2, 12, 0, 7, 4, 3, 2, 0, 158, 0, 1, 2, 0, 157, 2, 7, 0, 3, 2, 0, 157, 0, 2010, 3, 14, 1, 10, 3, 0, 160, 5, 3, 2, 0, 157, 0, 1, 0, 0, 1, 10, 3, 0, 160, 5, 3, 2, 0, 157, 0, 1, 0, 4]), (20, [1, 0], [30, 0, 1, 0, 0, -1, 1, 158]), (20, [0], [30, 9, 1, 1, 159]), (20, [0], [30, -9, -1, 1, 159])], [(0, 0, 2009, [])]))
abbrev b_Mo_styleValue_at_f0 : ByteArray := prog_15_method_226_code
def y_Mo_styleValue_at_f0 : MethodName := ⟨"DrawingHouseModel", "styleValue", "()J"⟩
abbrev z_Mo_styleValue_at_f0 : List Cond := Cond.code y_Mo_styleValue_at_f0 b_Mo_styleValue_at_f0 3 (some .long) :: lw_g
def e_Mo_styleValue_at_f0 : en_T := ([(2, 0, 0, [150])], some (1, -9223372036854775808, 9223372036854775807, []), false, 45, 0, 0, [], [], (0, [(13, 8), (13, 9), (13, 158), (13, 159)], [(20, [0], [50, 2, 1, 158, 157, 160, 2, 12, 0, 7, 4, 3, 2, 0, 158, 0, 1, 2, 0, 157, 2, 7, 0, 3, 2, 0, 157, 0, 2010, 3, 14, 1, 10, 3, 0, 160, 5, 3, 2, 0, 157, 0, 1, 0, 0, 1, 10, 3, 0, 160, 5, 3, 2, 0, 157, 0, 1, 0, 4]), (20, [0, 1], [30, 0, 1, 1, 158, -1, 0, 0]), (20, [0, 1], [30, 0, -1, 1, 158, 1, 0, 0]), (20, [0], [50, 2, 0, 164, 165, 4, 7, 1, 3, 2, 0, 164, 0, 0, 0, 3, 2, 0, 165, 0, 23]), (20, [0], [30, 0, 1, 1, 159]), (20, [0], [30, 0, -1, 1, 159])], [(20, [0], [50, 2, 1, 158, 157, 160, 2, 12, 0, 7, 4, 3, 2, 0, 158, 0, 1, 2, 0, 157, 2, 7, 0, 3, 2, 0, 157, 0, 2010, 3, 14, 1, 10, 3, 0, 160, 5, 3, 2, 0, 157, 0, 1, 0, 0, 1, 10, 3, 0, 160, 5, 3, 2, 0, 157, 0, 1, 0, 4]), (20, [1, 0], [30, 0, 1, 0, 0, -1, 1, 158]), (20, [0], [30, 0, 1, 1, 159]), (20, [0], [30, 0, -1, 1, 159])], [(0, 0, 2009, [])]))
abbrev b_Mo_styleValue_at_f1 : ByteArray := prog_15_method_226_code
def y_Mo_styleValue_at_f1 : MethodName := ⟨"DrawingHouseModel", "styleValue", "()J"⟩
abbrev z_Mo_styleValue_at_f1 : List Cond := Cond.code y_Mo_styleValue_at_f1 b_Mo_styleValue_at_f1 3 (some .long) :: lw_g
def e_Mo_styleValue_at_f1 : en_T := ([(2, 0, 0, [150])], some (1, -9223372036854775808, 9223372036854775807, []), false, 42, 0, 0, [], [], (0, [(13, 8), (13, 9), (13, 158), (13, 159)], [(20, [0], [50, 2, 1, 158, 157, 160, 2, 12, 0, 7, 4, 3, 2, 0, 158, 0, 1, 2, 0, 157, 2, 7, 0, 3, 2, 0, 157, 0, 2010, 3, 14, 1, 10, 3, 0, 160, 5, 3, 2, 0, 157, 0, 1, 0, 0, 1, 10, 3, 0, 160, 5, 3, 2, 0, 157, 0, 1, 0, 4]), (20, [0, 1], [30, 0, 1, 1, 158, -1, 0, 0]), (20, [0, 1], [30, 0, -1, 1, 158, 1, 0, 0]), (20, [0], [50, 2, 0, 164, 165, 4, 7, 1, 3, 2, 0, 164, 0, 0, 0, 3, 2, 0, 165, 0, 23]), (20, [0], [30, 1, 1, 1, 159]), (20, [0], [30, -1, -1, 1, 159])], [(20, [0], [50, 2, 1, 158, 157, 160, 2, 12, 0, 7, 4, 3, 2, 0, 158, 0, 1, 2, 0, 157, 2, 7, 0, 3, 2, 0, 157, 0, 2010, 3, 14, 1, 10, 3, 0, 160, 5, 3, 2, 0, 157, 0, 1, 0, 0, 1, 10, 3, 0, 160, 5, 3, 2, 0, 157, 0, 1, 0, 4]), (20, [1, 0], [30, 0, 1, 0, 0, -1, 1, 158]), (20, [0], [30, 1, 1, 1, 159]), (20, [0], [30, -1, -1, 1, 159])], [(0, 0, 2009, [])]))
abbrev b_Mo_styleValue_at_f10 : ByteArray := prog_15_method_226_code
def y_Mo_styleValue_at_f10 : MethodName := ⟨"DrawingHouseModel", "styleValue", "()J"⟩
abbrev z_Mo_styleValue_at_f10 : List Cond := Cond.code y_Mo_styleValue_at_f10 b_Mo_styleValue_at_f10 3 (some .long) :: lw_g
def e_Mo_styleValue_at_f10 : en_T := ([(2, 0, 0, [150])], some (1, -9223372036854775808, 9223372036854775807, []), false, 15, 0, 0, [], [], (0, [(13, 8), (13, 9), (13, 158), (13, 159)], [(20, [0], [50, 2, 1, 158, 157, 160, 2, 12, 0, 7, 4, 3, 2, 0, 158, 0, 1, 2, 0, 157, 2, 7, 0, 3, 2, 0, 157, 0, 2010, 3, 14, 1, 10, 3, 0, 160, 5, 3, 2, 0, 157, 0, 1, 0, 0, 1, 10, 3, 0, 160, 5, 3, 2, 0, 157, 0, 1, 0, 4]), (20, [0, 1], [30, 0, 1, 1, 158, -1, 0, 0]), (20, [0, 1], [30, 0, -1, 1, 158, 1, 0, 0]), (20, [0], [50, 2, 0, 164, 165, 4, 7, 1, 3, 2, 0, 164, 0, 0, 0, 3, 2, 0, 165, 0, 23]), (20, [0], [30, 10, 1, 1, 159]), (20, [0], [30, -10, -1, 1, 159])], [(20, [0], [50, 2, 1, 158, 157, 160, 2, 12, 0, 7, 4, 3, 2, 0, 158, 0, 1, 2, 0, 157, 2, 7, 0, 3, 2, 0, 157, 0, 2010, 3, 14, 1, 10, 3, 0, 160, 5, 3, 2, 0, 157, 0, 1, 0, 0, 1, 10, 3, 0, 160, 5, 3, 2, 0, 157, 0, 1, 0, 4]), (20, [1, 0], [30, 0, 1, 0, 0, -1, 1, 158]), (20, [0], [30, 10, 1, 1, 159]), (20, [0], [30, -10, -1, 1, 159])], [(0, 0, 2009, [])]))
abbrev b_Mo_styleValue_at_f11 : ByteArray := prog_15_method_226_code
def y_Mo_styleValue_at_f11 : MethodName := ⟨"DrawingHouseModel", "styleValue", "()J"⟩
abbrev z_Mo_styleValue_at_f11 : List Cond := Cond.code y_Mo_styleValue_at_f11 b_Mo_styleValue_at_f11 3 (some .long) :: lw_g
def e_Mo_styleValue_at_f11 : en_T := ([(2, 0, 0, [150])], some (1, -9223372036854775808, 9223372036854775807, []), false, 12, 0, 0, [], [], (0, [(13, 8), (13, 9), (13, 158), (13, 159)], [(20, [0], [50, 2, 1, 158, 157, 160, 2, 12, 0, 7, 4, 3, 2, 0, 158, 0, 1, 2, 0, 157, 2, 7, 0, 3, 2, 0, 157, 0, 2010, 3, 14, 1, 10, 3, 0, 160, 5, 3, 2, 0, 157, 0, 1, 0, 0, 1, 10, 3, 0, 160, 5, 3, 2, 0, 157, 0, 1, 0, 4]), (20, [0, 1], [30, 0, 1, 1, 158, -1, 0, 0]), (20, [0, 1], [30, 0, -1, 1, 158, 1, 0, 0]), (20, [0], [50, 2, 0, 164, 165, 4, 7, 1, 3, 2, 0, 164, 0, 0, 0, 3, 2, 0, 165, 0, 23]), (20, [0], [30, 11, 1, 1, 159]), (20, [0], [30, -11, -1, 1, 159])], [(20, [0], [50, 2, 1, 158, 157, 160, 2, 12, 0, 7, 4, 3, 2, 0, 158, 0, 1, 2, 0, 157, 2, 7, 0, 3, 2, 0, 157, 0, 2010, 3, 14, 1, 10, 3, 0, 160, 5, 3, 2, 0, 157, 0, 1, 0, 0, 1, 10, 3, 0, 160, 5, 3, 2, 0, 157, 0, 1, 0, 4]), (20, [1, 0], [30, 0, 1, 0, 0, -1, 1, 158]), (20, [0], [30, 11, 1, 1, 159]), (20, [0], [30, -11, -1, 1, 159])], [(0, 0, 2009, [])]))
abbrev b_Mo_styleValue_at_f12 : ByteArray := prog_15_method_226_code
def y_Mo_styleValue_at_f12 : MethodName := ⟨"DrawingHouseModel", "styleValue", "()J"⟩
abbrev z_Mo_styleValue_at_f12 : List Cond := Cond.code y_Mo_styleValue_at_f12 b_Mo_styleValue_at_f12 3 (some .long) :: lw_g
def e_Mo_styleValue_at_f12 : en_T := ([(2, 0, 0, [150])], some (1, -9223372036854775808, 9223372036854775807, []), false, 9, 0, 0, [], [], (0, [(13, 8), (13, 9), (13, 158), (13, 159)], [(20, [0], [50, 2, 1, 158, 157, 160, 2, 12, 0, 7, 4, 3, 2, 0, 158, 0, 1, 2, 0, 157, 2, 7, 0, 3, 2, 0, 157, 0, 2010, 3, 14, 1, 10, 3, 0, 160, 5, 3, 2, 0, 157, 0, 1, 0, 0, 1, 10, 3, 0, 160, 5, 3, 2, 0, 157, 0, 1, 0, 4]), (20, [0, 1], [30, 0, 1, 1, 158, -1, 0, 0]), (20, [0, 1], [30, 0, -1, 1, 158, 1, 0, 0]), (20, [0], [50, 2, 0, 164, 165, 4, 7, 1, 3, 2, 0, 164, 0, 0, 0, 3, 2, 0, 165, 0, 23]), (20, [0], [30, 12, 1, 1, 159]), (20, [0], [30, -12, -1, 1, 159])], [(20, [0], [50, 2, 1, 158, 157, 160, 2, 12, 0, 7, 4, 3, 2, 0, 158, 0, 1, 2, 0, 157, 2, 7, 0, 3, 2, 0, 157, 0, 2010, 3, 14, 1, 10, 3, 0, 160, 5, 3, 2, 0, 157, 0, 1, 0, 0, 1, 10, 3, 0, 160, 5, 3, 2, 0, 157, 0, 1, 0, 4]), (20, [1, 0], [30, 0, 1, 0, 0, -1, 1, 158]), (20, [0], [30, 12, 1, 1, 159]), (20, [0], [30, -12, -1, 1, 159])], [(0, 0, 2009, [])]))
abbrev b_Mo_styleValue_at_f13 : ByteArray := prog_15_method_226_code
def y_Mo_styleValue_at_f13 : MethodName := ⟨"DrawingHouseModel", "styleValue", "()J"⟩
abbrev z_Mo_styleValue_at_f13 : List Cond := Cond.code y_Mo_styleValue_at_f13 b_Mo_styleValue_at_f13 3 (some .long) :: lw_g
def e_Mo_styleValue_at_f13 : en_T := ([(2, 0, 0, [150])], some (1, 0, 0, []), false, 6, 0, 0, [], [], (0, [(13, 8), (13, 9), (13, 158), (13, 159)], [(20, [0], [50, 2, 1, 158, 157, 160, 2, 12, 0, 7, 4, 3, 2, 0, 158, 0, 1, 2, 0, 157, 2, 7, 0, 3, 2, 0, 157, 0, 2010, 3, 14, 1, 10, 3, 0, 160, 5, 3, 2, 0, 157, 0, 1, 0, 0, 1, 10, 3, 0, 160, 5, 3, 2, 0, 157, 0, 1, 0, 4]), (20, [0, 1], [30, 0, 1, 1, 158, -1, 0, 0]), (20, [0, 1], [30, 0, -1, 1, 158, 1, 0, 0]), (20, [0], [50, 2, 0, 164, 165, 4, 7, 1, 3, 2, 0, 164, 0, 0, 0, 3, 2, 0, 165, 0, 23]), (20, [0], [30, 13, 1, 1, 159]), (20, [0], [30, -13, -1, 1, 159]), (20, [0], [30, -1, -1, 1, 8])], [(20, [0], [50, 2, 1, 158, 157, 160, 2, 12, 0, 7, 4, 3, 2, 0, 158, 0, 1, 2, 0, 157, 2, 7, 0, 3, 2, 0, 157, 0, 2010, 3, 14, 1, 10, 3, 0, 160, 5, 3, 2, 0, 157, 0, 1, 0, 0, 1, 10, 3, 0, 160, 5, 3, 2, 0, 157, 0, 1, 0, 4]), (20, [1, 0], [30, 0, 1, 0, 0, -1, 1, 158]), (20, [0], [30, 13, 1, 1, 159]), (20, [0], [30, -13, -1, 1, 159]), (20, [0], [30, -1, -1, 1, 8])], [(0, 0, 2009, [])]))
abbrev b_Mo_styleValue_at_f2 : ByteArray := prog_15_method_226_code
def y_Mo_styleValue_at_f2 : MethodName := ⟨"DrawingHouseModel", "styleValue", "()J"⟩
abbrev z_Mo_styleValue_at_f2 : List Cond := Cond.code y_Mo_styleValue_at_f2 b_Mo_styleValue_at_f2 3 (some .long) :: lw_g
def e_Mo_styleValue_at_f2 : en_T := ([(2, 0, 0, [150])], some (1, -9223372036854775808, 9223372036854775807, []), false, 39, 0, 0, [], [], (0, [(13, 8), (13, 9), (13, 158), (13, 159)], [(20, [0], [50, 2, 1, 158, 157, 160, 2, 12, 0, 7, 4, 3, 2, 0, 158, 0, 1, 2, 0, 157, 2, 7, 0, 3, 2, 0, 157, 0, 2010, 3, 14, 1, 10, 3, 0, 160, 5, 3, 2, 0, 157, 0, 1, 0, 0, 1, 10, 3, 0, 160, 5, 3, 2, 0, 157, 0, 1, 0, 4]), (20, [0, 1], [30, 0, 1, 1, 158, -1, 0, 0]), (20, [0, 1], [30, 0, -1, 1, 158, 1, 0, 0]), (20, [0], [50, 2, 0, 164, 165, 4, 7, 1, 3, 2, 0, 164, 0, 0, 0, 3, 2, 0, 165, 0, 23]), (20, [0], [30, 2, 1, 1, 159]), (20, [0], [30, -2, -1, 1, 159])], [(20, [0], [50, 2, 1, 158, 157, 160, 2, 12, 0, 7, 4, 3, 2, 0, 158, 0, 1, 2, 0, 157, 2, 7, 0, 3, 2, 0, 157, 0, 2010, 3, 14, 1, 10, 3, 0, 160, 5, 3, 2, 0, 157, 0, 1, 0, 0, 1, 10, 3, 0, 160, 5, 3, 2, 0, 157, 0, 1, 0, 4]), (20, [1, 0], [30, 0, 1, 0, 0, -1, 1, 158]), (20, [0], [30, 2, 1, 1, 159]), (20, [0], [30, -2, -1, 1, 159])], [(0, 0, 2009, [])]))
abbrev b_Mo_styleValue_at_f3 : ByteArray := prog_15_method_226_code
def y_Mo_styleValue_at_f3 : MethodName := ⟨"DrawingHouseModel", "styleValue", "()J"⟩
abbrev z_Mo_styleValue_at_f3 : List Cond := Cond.code y_Mo_styleValue_at_f3 b_Mo_styleValue_at_f3 3 (some .long) :: lw_g
def e_Mo_styleValue_at_f3 : en_T := ([(2, 0, 0, [150])], some (1, -9223372036854775808, 9223372036854775807, []), false, 36, 0, 0, [], [], (0, [(13, 8), (13, 9), (13, 158), (13, 159)], [(20, [0], [50, 2, 1, 158, 157, 160, 2, 12, 0, 7, 4, 3, 2, 0, 158, 0, 1, 2, 0, 157, 2, 7, 0, 3, 2, 0, 157, 0, 2010, 3, 14, 1, 10, 3, 0, 160, 5, 3, 2, 0, 157, 0, 1, 0, 0, 1, 10, 3, 0, 160, 5, 3, 2, 0, 157, 0, 1, 0, 4]), (20, [0, 1], [30, 0, 1, 1, 158, -1, 0, 0]), (20, [0, 1], [30, 0, -1, 1, 158, 1, 0, 0]), (20, [0], [50, 2, 0, 164, 165, 4, 7, 1, 3, 2, 0, 164, 0, 0, 0, 3, 2, 0, 165, 0, 23]), (20, [0], [30, 3, 1, 1, 159]), (20, [0], [30, -3, -1, 1, 159])], [(20, [0], [50, 2, 1, 158, 157, 160, 2, 12, 0, 7, 4, 3, 2, 0, 158, 0, 1, 2, 0, 157, 2, 7, 0, 3, 2, 0, 157, 0, 2010, 3, 14, 1, 10, 3, 0, 160, 5, 3, 2, 0, 157, 0, 1, 0, 0, 1, 10, 3, 0, 160, 5, 3, 2, 0, 157, 0, 1, 0, 4]), (20, [1, 0], [30, 0, 1, 0, 0, -1, 1, 158]), (20, [0], [30, 3, 1, 1, 159]), (20, [0], [30, -3, -1, 1, 159])], [(0, 0, 2009, [])]))
abbrev b_Mo_styleValue_at_f4 : ByteArray := prog_15_method_226_code
def y_Mo_styleValue_at_f4 : MethodName := ⟨"DrawingHouseModel", "styleValue", "()J"⟩
abbrev z_Mo_styleValue_at_f4 : List Cond := Cond.code y_Mo_styleValue_at_f4 b_Mo_styleValue_at_f4 3 (some .long) :: lw_g
def e_Mo_styleValue_at_f4 : en_T := ([(2, 0, 0, [150])], some (1, -9223372036854775808, 9223372036854775807, []), false, 33, 0, 0, [], [], (0, [(13, 8), (13, 9), (13, 158), (13, 159)], [(20, [0], [50, 2, 1, 158, 157, 160, 2, 12, 0, 7, 4, 3, 2, 0, 158, 0, 1, 2, 0, 157, 2, 7, 0, 3, 2, 0, 157, 0, 2010, 3, 14, 1, 10, 3, 0, 160, 5, 3, 2, 0, 157, 0, 1, 0, 0, 1, 10, 3, 0, 160, 5, 3, 2, 0, 157, 0, 1, 0, 4]), (20, [0, 1], [30, 0, 1, 1, 158, -1, 0, 0]), (20, [0, 1], [30, 0, -1, 1, 158, 1, 0, 0]), (20, [0], [50, 2, 0, 164, 165, 4, 7, 1, 3, 2, 0, 164, 0, 0, 0, 3, 2, 0, 165, 0, 23]), (20, [0], [30, 4, 1, 1, 159]), (20, [0], [30, -4, -1, 1, 159])], [(20, [0], [50, 2, 1, 158, 157, 160, 2, 12, 0, 7, 4, 3, 2, 0, 158, 0, 1, 2, 0, 157, 2, 7, 0, 3, 2, 0, 157, 0, 2010, 3, 14, 1, 10, 3, 0, 160, 5, 3, 2, 0, 157, 0, 1, 0, 0, 1, 10, 3, 0, 160, 5, 3, 2, 0, 157, 0, 1, 0, 4]), (20, [1, 0], [30, 0, 1, 0, 0, -1, 1, 158]), (20, [0], [30, 4, 1, 1, 159]), (20, [0], [30, -4, -1, 1, 159])], [(0, 0, 2009, [])]))
abbrev b_Mo_styleValue_at_f5 : ByteArray := prog_15_method_226_code
def y_Mo_styleValue_at_f5 : MethodName := ⟨"DrawingHouseModel", "styleValue", "()J"⟩
abbrev z_Mo_styleValue_at_f5 : List Cond := Cond.code y_Mo_styleValue_at_f5 b_Mo_styleValue_at_f5 3 (some .long) :: lw_g
def e_Mo_styleValue_at_f5 : en_T := ([(2, 0, 0, [150])], some (1, -9223372036854775808, 9223372036854775807, []), false, 30, 0, 0, [], [], (0, [(13, 8), (13, 9), (13, 158), (13, 159)], [(20, [0], [50, 2, 1, 158, 157, 160, 2, 12, 0, 7, 4, 3, 2, 0, 158, 0, 1, 2, 0, 157, 2, 7, 0, 3, 2, 0, 157, 0, 2010, 3, 14, 1, 10, 3, 0, 160, 5, 3, 2, 0, 157, 0, 1, 0, 0, 1, 10, 3, 0, 160, 5, 3, 2, 0, 157, 0, 1, 0, 4]), (20, [0, 1], [30, 0, 1, 1, 158, -1, 0, 0]), (20, [0, 1], [30, 0, -1, 1, 158, 1, 0, 0]), (20, [0], [50, 2, 0, 164, 165, 4, 7, 1, 3, 2, 0, 164, 0, 0, 0, 3, 2, 0, 165, 0, 23]), (20, [0], [30, 5, 1, 1, 159]), (20, [0], [30, -5, -1, 1, 159])], [(20, [0], [50, 2, 1, 158, 157, 160, 2, 12, 0, 7, 4, 3, 2, 0, 158, 0, 1, 2, 0, 157, 2, 7, 0, 3, 2, 0, 157, 0, 2010, 3, 14, 1, 10, 3, 0, 160, 5, 3, 2, 0, 157, 0, 1, 0, 0, 1, 10, 3, 0, 160, 5, 3, 2, 0, 157, 0, 1, 0, 4]), (20, [1, 0], [30, 0, 1, 0, 0, -1, 1, 158]), (20, [0], [30, 5, 1, 1, 159]), (20, [0], [30, -5, -1, 1, 159])], [(0, 0, 2009, [])]))
abbrev b_Mo_styleValue_at_f6 : ByteArray := prog_15_method_226_code
def y_Mo_styleValue_at_f6 : MethodName := ⟨"DrawingHouseModel", "styleValue", "()J"⟩
abbrev z_Mo_styleValue_at_f6 : List Cond := Cond.code y_Mo_styleValue_at_f6 b_Mo_styleValue_at_f6 3 (some .long) :: lw_g
def e_Mo_styleValue_at_f6 : en_T := ([(2, 0, 0, [150])], some (1, -9223372036854775808, 9223372036854775807, []), false, 27, 0, 0, [], [], (0, [(13, 8), (13, 9), (13, 158), (13, 159)], [(20, [0], [50, 2, 1, 158, 157, 160, 2, 12, 0, 7, 4, 3, 2, 0, 158, 0, 1, 2, 0, 157, 2, 7, 0, 3, 2, 0, 157, 0, 2010, 3, 14, 1, 10, 3, 0, 160, 5, 3, 2, 0, 157, 0, 1, 0, 0, 1, 10, 3, 0, 160, 5, 3, 2, 0, 157, 0, 1, 0, 4]), (20, [0, 1], [30, 0, 1, 1, 158, -1, 0, 0]), (20, [0, 1], [30, 0, -1, 1, 158, 1, 0, 0]), (20, [0], [50, 2, 0, 164, 165, 4, 7, 1, 3, 2, 0, 164, 0, 0, 0, 3, 2, 0, 165, 0, 23]), (20, [0], [30, 6, 1, 1, 159]), (20, [0], [30, -6, -1, 1, 159])], [(20, [0], [50, 2, 1, 158, 157, 160, 2, 12, 0, 7, 4, 3, 2, 0, 158, 0, 1, 2, 0, 157, 2, 7, 0, 3, 2, 0, 157, 0, 2010, 3, 14, 1, 10, 3, 0, 160, 5, 3, 2, 0, 157, 0, 1, 0, 0, 1, 10, 3, 0, 160, 5, 3, 2, 0, 157, 0, 1, 0, 4]), (20, [1, 0], [30, 0, 1, 0, 0, -1, 1, 158]), (20, [0], [30, 6, 1, 1, 159]), (20, [0], [30, -6, -1, 1, 159])], [(0, 0, 2009, [])]))
abbrev b_Mo_styleValue_at_f7 : ByteArray := prog_15_method_226_code
def y_Mo_styleValue_at_f7 : MethodName := ⟨"DrawingHouseModel", "styleValue", "()J"⟩
abbrev z_Mo_styleValue_at_f7 : List Cond := Cond.code y_Mo_styleValue_at_f7 b_Mo_styleValue_at_f7 3 (some .long) :: lw_g
def e_Mo_styleValue_at_f7 : en_T := ([(2, 0, 0, [150])], some (1, -9223372036854775808, 9223372036854775807, []), false, 24, 0, 0, [], [], (0, [(13, 8), (13, 9), (13, 158), (13, 159)], [(20, [0], [50, 2, 1, 158, 157, 160, 2, 12, 0, 7, 4, 3, 2, 0, 158, 0, 1, 2, 0, 157, 2, 7, 0, 3, 2, 0, 157, 0, 2010, 3, 14, 1, 10, 3, 0, 160, 5, 3, 2, 0, 157, 0, 1, 0, 0, 1, 10, 3, 0, 160, 5, 3, 2, 0, 157, 0, 1, 0, 4]), (20, [0, 1], [30, 0, 1, 1, 158, -1, 0, 0]), (20, [0, 1], [30, 0, -1, 1, 158, 1, 0, 0]), (20, [0], [50, 2, 0, 164, 165, 4, 7, 1, 3, 2, 0, 164, 0, 0, 0, 3, 2, 0, 165, 0, 23]), (20, [0], [30, 7, 1, 1, 159]), (20, [0], [30, -7, -1, 1, 159])], [(20, [0], [50, 2, 1, 158, 157, 160, 2, 12, 0, 7, 4, 3, 2, 0, 158, 0, 1, 2, 0, 157, 2, 7, 0, 3, 2, 0, 157, 0, 2010, 3, 14, 1, 10, 3, 0, 160, 5, 3, 2, 0, 157, 0, 1, 0, 0, 1, 10, 3, 0, 160, 5, 3, 2, 0, 157, 0, 1, 0, 4]), (20, [1, 0], [30, 0, 1, 0, 0, -1, 1, 158]), (20, [0], [30, 7, 1, 1, 159]), (20, [0], [30, -7, -1, 1, 159])], [(0, 0, 2009, [])]))
abbrev b_Mo_styleValue_at_f8 : ByteArray := prog_15_method_226_code
def y_Mo_styleValue_at_f8 : MethodName := ⟨"DrawingHouseModel", "styleValue", "()J"⟩
abbrev z_Mo_styleValue_at_f8 : List Cond := Cond.code y_Mo_styleValue_at_f8 b_Mo_styleValue_at_f8 3 (some .long) :: lw_g
def e_Mo_styleValue_at_f8 : en_T := ([(2, 0, 0, [150])], some (1, -9223372036854775808, 9223372036854775807, []), false, 21, 0, 0, [], [], (0, [(13, 8), (13, 9), (13, 158), (13, 159)], [(20, [0], [50, 2, 1, 158, 157, 160, 2, 12, 0, 7, 4, 3, 2, 0, 158, 0, 1, 2, 0, 157, 2, 7, 0, 3, 2, 0, 157, 0, 2010, 3, 14, 1, 10, 3, 0, 160, 5, 3, 2, 0, 157, 0, 1, 0, 0, 1, 10, 3, 0, 160, 5, 3, 2, 0, 157, 0, 1, 0, 4]), (20, [0, 1], [30, 0, 1, 1, 158, -1, 0, 0]), (20, [0, 1], [30, 0, -1, 1, 158, 1, 0, 0]), (20, [0], [50, 2, 0, 164, 165, 4, 7, 1, 3, 2, 0, 164, 0, 0, 0, 3, 2, 0, 165, 0, 23]), (20, [0], [30, 8, 1, 1, 159]), (20, [0], [30, -8, -1, 1, 159])], [(20, [0], [50, 2, 1, 158, 157, 160, 2, 12, 0, 7, 4, 3, 2, 0, 158, 0, 1, 2, 0, 157, 2, 7, 0, 3, 2, 0, 157, 0, 2010, 3, 14, 1, 10, 3, 0, 160, 5, 3, 2, 0, 157, 0, 1, 0, 0, 1, 10, 3, 0, 160, 5, 3, 2, 0, 157, 0, 1, 0, 4]), (20, [1, 0], [30, 0, 1, 0, 0, -1, 1, 158]), (20, [0], [30, 8, 1, 1, 159]), (20, [0], [30, -8, -1, 1, 159])], [(0, 0, 2009, [])]))
abbrev b_Mo_styleValue_at_f9 : ByteArray := prog_15_method_226_code
def y_Mo_styleValue_at_f9 : MethodName := ⟨"DrawingHouseModel", "styleValue", "()J"⟩
abbrev z_Mo_styleValue_at_f9 : List Cond := Cond.code y_Mo_styleValue_at_f9 b_Mo_styleValue_at_f9 3 (some .long) :: lw_g
def e_Mo_styleValue_at_f9 : en_T := ([(2, 0, 0, [150])], some (1, -9223372036854775808, 9223372036854775807, []), false, 18, 0, 0, [], [], (0, [(13, 8), (13, 9), (13, 158), (13, 159)], [(20, [0], [50, 2, 1, 158, 157, 160, 2, 12, 0, 7, 4, 3, 2, 0, 158, 0, 1, 2, 0, 157, 2, 7, 0, 3, 2, 0, 157, 0, 2010, 3, 14, 1, 10, 3, 0, 160, 5, 3, 2, 0, 157, 0, 1, 0, 0, 1, 10, 3, 0, 160, 5, 3, 2, 0, 157, 0, 1, 0, 4]), (20, [0, 1], [30, 0, 1, 1, 158, -1, 0, 0]), (20, [0, 1], [30, 0, -1, 1, 158, 1, 0, 0]), (20, [0], [50, 2, 0, 164, 165, 4, 7, 1, 3, 2, 0, 164, 0, 0, 0, 3, 2, 0, 165, 0, 23]), (20, [0], [30, 9, 1, 1, 159]), (20, [0], [30, -9, -1, 1, 159])], [(20, [0], [50, 2, 1, 158, 157, 160, 2, 12, 0, 7, 4, 3, 2, 0, 158, 0, 1, 2, 0, 157, 2, 7, 0, 3, 2, 0, 157, 0, 2010, 3, 14, 1, 10, 3, 0, 160, 5, 3, 2, 0, 157, 0, 1, 0, 0, 1, 10, 3, 0, 160, 5, 3, 2, 0, 157, 0, 1, 0, 4]), (20, [1, 0], [30, 0, 1, 0, 0, -1, 1, 158]), (20, [0], [30, 9, 1, 1, 159]), (20, [0], [30, -9, -1, 1, 159])], [(0, 0, 2009, [])]))
abbrev b_Mo_sum_at_f0 : ByteArray := prog_15_method_224_code
def y_Mo_sum_at_f0 : MethodName := ⟨"DrawingHouseModel", "sum", "()J"⟩
abbrev z_Mo_sum_at_f0 : List Cond := Cond.code y_Mo_sum_at_f0 b_Mo_sum_at_f0 6 (some .long) :: lw_g
def e_Mo_sum_at_f0 : en_T := ([(2, 0, 0, [150])], some (1, -9223372036854775808, 9223372036854775807, []), false, 47, 0, 0, [], [], (0, [(13, 8), (13, 9), (13, 158), (13, 159)], [(20, [0], [50, 2, 1, 158, 157, 160, 2, 12, 0, 7, 4, 3, 2, 0, 158, 0, 1, 2, 0, 157, 2, 7, 0, 3, 2, 0, 157, 0, 2010, 3, 14, 1, 10, 3, 0, 160, 5, 3, 2, 0, 157, 0, 1, 0, 0, 1, 10, 3, 0, 160, 5, 3, 2, 0, 157, 0, 1, 0, 4]), (20, [0, 1], [30, 0, 1, 1, 158, -1, 0, 0]), (20, [0, 1], [30, 0, -1, 1, 158, 1, 0, 0]), (20, [0], [50, 2, 0, 164, 165, 4, 7, 1, 3, 2, 0, 164, 0, 0, 0, 3, 2, 0, 165, 0, 23]), (20, [0], [30, 0, 1, 1, 159]), (20, [0], [30, 0, -1, 1, 159])], [(20, [0], [50, 2, 1, 158, 157, 160, 2, 12, 0, 7, 4, 3, 2, 0, 158, 0, 1, 2, 0, 157, 2, 7, 0, 3, 2, 0, 157, 0, 2010, 3, 14, 1, 10, 3, 0, 160, 5, 3, 2, 0, 157, 0, 1, 0, 0, 1, 10, 3, 0, 160, 5, 3, 2, 0, 157, 0, 1, 0, 4]), (20, [1, 0], [30, 0, 1, 0, 0, -1, 1, 158]), (20, [0], [30, 0, 1, 1, 159]), (20, [0], [30, 0, -1, 1, 159])], [(0, 0, 2009, [])]))
abbrev b_Mo_sum_at_f1 : ByteArray := prog_15_method_224_code
def y_Mo_sum_at_f1 : MethodName := ⟨"DrawingHouseModel", "sum", "()J"⟩
abbrev z_Mo_sum_at_f1 : List Cond := Cond.code y_Mo_sum_at_f1 b_Mo_sum_at_f1 6 (some .long) :: lw_g
def e_Mo_sum_at_f1 : en_T := ([(2, 0, 0, [150])], some (1, -9223372036854775808, 9223372036854775807, []), false, 44, 0, 0, [], [], (0, [(13, 8), (13, 9), (13, 158), (13, 159)], [(20, [0], [50, 2, 1, 158, 157, 160, 2, 12, 0, 7, 4, 3, 2, 0, 158, 0, 1, 2, 0, 157, 2, 7, 0, 3, 2, 0, 157, 0, 2010, 3, 14, 1, 10, 3, 0, 160, 5, 3, 2, 0, 157, 0, 1, 0, 0, 1, 10, 3, 0, 160, 5, 3, 2, 0, 157, 0, 1, 0, 4]), (20, [0, 1], [30, 0, 1, 1, 158, -1, 0, 0]), (20, [0, 1], [30, 0, -1, 1, 158, 1, 0, 0]), (20, [0], [50, 2, 0, 164, 165, 4, 7, 1, 3, 2, 0, 164, 0, 0, 0, 3, 2, 0, 165, 0, 23]), (20, [0], [30, 1, 1, 1, 159]), (20, [0], [30, -1, -1, 1, 159])], [(20, [0], [50, 2, 1, 158, 157, 160, 2, 12, 0, 7, 4, 3, 2, 0, 158, 0, 1, 2, 0, 157, 2, 7, 0, 3, 2, 0, 157, 0, 2010, 3, 14, 1, 10, 3, 0, 160, 5, 3, 2, 0, 157, 0, 1, 0, 0, 1, 10, 3, 0, 160, 5, 3, 2, 0, 157, 0, 1, 0, 4]), (20, [1, 0], [30, 0, 1, 0, 0, -1, 1, 158]), (20, [0], [30, 1, 1, 1, 159]), (20, [0], [30, -1, -1, 1, 159])], [(0, 0, 2009, [])]))
abbrev b_Mo_sum_at_f10 : ByteArray := prog_15_method_224_code
def y_Mo_sum_at_f10 : MethodName := ⟨"DrawingHouseModel", "sum", "()J"⟩
abbrev z_Mo_sum_at_f10 : List Cond := Cond.code y_Mo_sum_at_f10 b_Mo_sum_at_f10 6 (some .long) :: lw_g
def e_Mo_sum_at_f10 : en_T := ([(2, 0, 0, [150])], some (1, -9223372036854775808, 9223372036854775807, []), false, 17, 0, 0, [], [], (0, [(13, 8), (13, 9), (13, 158), (13, 159)], [(20, [0], [50, 2, 1, 158, 157, 160, 2, 12, 0, 7, 4, 3, 2, 0, 158, 0, 1, 2, 0, 157, 2, 7, 0, 3, 2, 0, 157, 0, 2010, 3, 14, 1, 10, 3, 0, 160, 5, 3, 2, 0, 157, 0, 1, 0, 0, 1, 10, 3, 0, 160, 5, 3, 2, 0, 157, 0, 1, 0, 4]), (20, [0, 1], [30, 0, 1, 1, 158, -1, 0, 0]), (20, [0, 1], [30, 0, -1, 1, 158, 1, 0, 0]), (20, [0], [50, 2, 0, 164, 165, 4, 7, 1, 3, 2, 0, 164, 0, 0, 0, 3, 2, 0, 165, 0, 23]), (20, [0], [30, 10, 1, 1, 159]), (20, [0], [30, -10, -1, 1, 159])], [(20, [0], [50, 2, 1, 158, 157, 160, 2, 12, 0, 7, 4, 3, 2, 0, 158, 0, 1, 2, 0, 157, 2, 7, 0, 3, 2, 0, 157, 0, 2010, 3, 14, 1, 10, 3, 0, 160, 5, 3, 2, 0, 157, 0, 1, 0, 0, 1, 10, 3, 0, 160, 5, 3, 2, 0, 157, 0, 1, 0, 4]), (20, [1, 0], [30, 0, 1, 0, 0, -1, 1, 158]), (20, [0], [30, 10, 1, 1, 159]), (20, [0], [30, -10, -1, 1, 159])], [(0, 0, 2009, [])]))
abbrev b_Mo_sum_at_f11 : ByteArray := prog_15_method_224_code
def y_Mo_sum_at_f11 : MethodName := ⟨"DrawingHouseModel", "sum", "()J"⟩
abbrev z_Mo_sum_at_f11 : List Cond := Cond.code y_Mo_sum_at_f11 b_Mo_sum_at_f11 6 (some .long) :: lw_g
def e_Mo_sum_at_f11 : en_T := ([(2, 0, 0, [150])], some (1, -9223372036854775808, 9223372036854775807, []), false, 14, 0, 0, [], [], (0, [(13, 8), (13, 9), (13, 158), (13, 159)], [(20, [0], [50, 2, 1, 158, 157, 160, 2, 12, 0, 7, 4, 3, 2, 0, 158, 0, 1, 2, 0, 157, 2, 7, 0, 3, 2, 0, 157, 0, 2010, 3, 14, 1, 10, 3, 0, 160, 5, 3, 2, 0, 157, 0, 1, 0, 0, 1, 10, 3, 0, 160, 5, 3, 2, 0, 157, 0, 1, 0, 4]), (20, [0, 1], [30, 0, 1, 1, 158, -1, 0, 0]), (20, [0, 1], [30, 0, -1, 1, 158, 1, 0, 0]), (20, [0], [50, 2, 0, 164, 165, 4, 7, 1, 3, 2, 0, 164, 0, 0, 0, 3, 2, 0, 165, 0, 23]), (20, [0], [30, 11, 1, 1, 159]), (20, [0], [30, -11, -1, 1, 159])], [(20, [0], [50, 2, 1, 158, 157, 160, 2, 12, 0, 7, 4, 3, 2, 0, 158, 0, 1, 2, 0, 157, 2, 7, 0, 3, 2, 0, 157, 0, 2010, 3, 14, 1, 10, 3, 0, 160, 5, 3, 2, 0, 157, 0, 1, 0, 0, 1, 10, 3, 0, 160, 5, 3, 2, 0, 157, 0, 1, 0, 4]), (20, [1, 0], [30, 0, 1, 0, 0, -1, 1, 158]), (20, [0], [30, 11, 1, 1, 159]), (20, [0], [30, -11, -1, 1, 159])], [(0, 0, 2009, [])]))
abbrev b_Mo_sum_at_f12 : ByteArray := prog_15_method_224_code
def y_Mo_sum_at_f12 : MethodName := ⟨"DrawingHouseModel", "sum", "()J"⟩
abbrev z_Mo_sum_at_f12 : List Cond := Cond.code y_Mo_sum_at_f12 b_Mo_sum_at_f12 6 (some .long) :: lw_g
def e_Mo_sum_at_f12 : en_T := ([(2, 0, 0, [150])], some (1, -9223372036854775808, 9223372036854775807, []), false, 11, 0, 0, [], [], (0, [(13, 8), (13, 9), (13, 158), (13, 159)], [(20, [0], [50, 2, 1, 158, 157, 160, 2, 12, 0, 7, 4, 3, 2, 0, 158, 0, 1, 2, 0, 157, 2, 7, 0, 3, 2, 0, 157, 0, 2010, 3, 14, 1, 10, 3, 0, 160, 5, 3, 2, 0, 157, 0, 1, 0, 0, 1, 10, 3, 0, 160, 5, 3, 2, 0, 157, 0, 1, 0, 4]), (20, [0, 1], [30, 0, 1, 1, 158, -1, 0, 0]), (20, [0, 1], [30, 0, -1, 1, 158, 1, 0, 0]), (20, [0], [50, 2, 0, 164, 165, 4, 7, 1, 3, 2, 0, 164, 0, 0, 0, 3, 2, 0, 165, 0, 23]), (20, [0], [30, 12, 1, 1, 159]), (20, [0], [30, -12, -1, 1, 159])], [(20, [0], [50, 2, 1, 158, 157, 160, 2, 12, 0, 7, 4, 3, 2, 0, 158, 0, 1, 2, 0, 157, 2, 7, 0, 3, 2, 0, 157, 0, 2010, 3, 14, 1, 10, 3, 0, 160, 5, 3, 2, 0, 157, 0, 1, 0, 0, 1, 10, 3, 0, 160, 5, 3, 2, 0, 157, 0, 1, 0, 4]), (20, [1, 0], [30, 0, 1, 0, 0, -1, 1, 158]), (20, [0], [30, 12, 1, 1, 159]), (20, [0], [30, -12, -1, 1, 159])], [(0, 0, 2009, [])]))
abbrev b_Mo_sum_at_f13 : ByteArray := prog_15_method_224_code
def y_Mo_sum_at_f13 : MethodName := ⟨"DrawingHouseModel", "sum", "()J"⟩
abbrev z_Mo_sum_at_f13 : List Cond := Cond.code y_Mo_sum_at_f13 b_Mo_sum_at_f13 6 (some .long) :: lw_g
def e_Mo_sum_at_f13 : en_T := ([(2, 0, 0, [150])], some (1, 0, 0, []), false, 8, 0, 0, [], [], (0, [(13, 8), (13, 9), (13, 158), (13, 159)], [(20, [0], [50, 2, 1, 158, 157, 160, 2, 12, 0, 7, 4, 3, 2, 0, 158, 0, 1, 2, 0, 157, 2, 7, 0, 3, 2, 0, 157, 0, 2010, 3, 14, 1, 10, 3, 0, 160, 5, 3, 2, 0, 157, 0, 1, 0, 0, 1, 10, 3, 0, 160, 5, 3, 2, 0, 157, 0, 1, 0, 4]), (20, [0, 1], [30, 0, 1, 1, 158, -1, 0, 0]), (20, [0, 1], [30, 0, -1, 1, 158, 1, 0, 0]), (20, [0], [50, 2, 0, 164, 165, 4, 7, 1, 3, 2, 0, 164, 0, 0, 0, 3, 2, 0, 165, 0, 23]), (20, [0], [30, 13, 1, 1, 159]), (20, [0], [30, -13, -1, 1, 159]), (20, [0], [30, -1, -1, 1, 8])], [(20, [0], [50, 2, 1, 158, 157, 160, 2, 12, 0, 7, 4, 3, 2, 0, 158, 0, 1, 2, 0, 157, 2, 7, 0, 3, 2, 0, 157, 0, 2010, 3, 14, 1, 10, 3, 0, 160, 5, 3, 2, 0, 157, 0, 1, 0, 0, 1, 10, 3, 0, 160, 5, 3, 2, 0, 157, 0, 1, 0, 4]), (20, [1, 0], [30, 0, 1, 0, 0, -1, 1, 158]), (20, [0], [30, 13, 1, 1, 159]), (20, [0], [30, -13, -1, 1, 159]), (20, [0], [30, -1, -1, 1, 8])], [(0, 0, 2009, [])]))
abbrev b_Mo_sum_at_f2 : ByteArray := prog_15_method_224_code
def y_Mo_sum_at_f2 : MethodName := ⟨"DrawingHouseModel", "sum", "()J"⟩
abbrev z_Mo_sum_at_f2 : List Cond := Cond.code y_Mo_sum_at_f2 b_Mo_sum_at_f2 6 (some .long) :: lw_g
def e_Mo_sum_at_f2 : en_T := ([(2, 0, 0, [150])], some (1, -9223372036854775808, 9223372036854775807, []), false, 41, 0, 0, [], [], (0, [(13, 8), (13, 9), (13, 158), (13, 159)], [(20, [0], [50, 2, 1, 158, 157, 160, 2, 12, 0, 7, 4, 3, 2, 0, 158, 0, 1, 2, 0, 157, 2, 7, 0, 3, 2, 0, 157, 0, 2010, 3, 14, 1, 10, 3, 0, 160, 5, 3, 2, 0, 157, 0, 1, 0, 0, 1, 10, 3, 0, 160, 5, 3, 2, 0, 157, 0, 1, 0, 4]), (20, [0, 1], [30, 0, 1, 1, 158, -1, 0, 0]), (20, [0, 1], [30, 0, -1, 1, 158, 1, 0, 0]), (20, [0], [50, 2, 0, 164, 165, 4, 7, 1, 3, 2, 0, 164, 0, 0, 0, 3, 2, 0, 165, 0, 23]), (20, [0], [30, 2, 1, 1, 159]), (20, [0], [30, -2, -1, 1, 159])], [(20, [0], [50, 2, 1, 158, 157, 160, 2, 12, 0, 7, 4, 3, 2, 0, 158, 0, 1, 2, 0, 157, 2, 7, 0, 3, 2, 0, 157, 0, 2010, 3, 14, 1, 10, 3, 0, 160, 5, 3, 2, 0, 157, 0, 1, 0, 0, 1, 10, 3, 0, 160, 5, 3, 2, 0, 157, 0, 1, 0, 4]), (20, [1, 0], [30, 0, 1, 0, 0, -1, 1, 158]), (20, [0], [30, 2, 1, 1, 159]), (20, [0], [30, -2, -1, 1, 159])], [(0, 0, 2009, [])]))
abbrev b_Mo_sum_at_f3 : ByteArray := prog_15_method_224_code
def y_Mo_sum_at_f3 : MethodName := ⟨"DrawingHouseModel", "sum", "()J"⟩
abbrev z_Mo_sum_at_f3 : List Cond := Cond.code y_Mo_sum_at_f3 b_Mo_sum_at_f3 6 (some .long) :: lw_g
def e_Mo_sum_at_f3 : en_T := ([(2, 0, 0, [150])], some (1, -9223372036854775808, 9223372036854775807, []), false, 38, 0, 0, [], [], (0, [(13, 8), (13, 9), (13, 158), (13, 159)], [(20, [0], [50, 2, 1, 158, 157, 160, 2, 12, 0, 7, 4, 3, 2, 0, 158, 0, 1, 2, 0, 157, 2, 7, 0, 3, 2, 0, 157, 0, 2010, 3, 14, 1, 10, 3, 0, 160, 5, 3, 2, 0, 157, 0, 1, 0, 0, 1, 10, 3, 0, 160, 5, 3, 2, 0, 157, 0, 1, 0, 4]), (20, [0, 1], [30, 0, 1, 1, 158, -1, 0, 0]), (20, [0, 1], [30, 0, -1, 1, 158, 1, 0, 0]), (20, [0], [50, 2, 0, 164, 165, 4, 7, 1, 3, 2, 0, 164, 0, 0, 0, 3, 2, 0, 165, 0, 23]), (20, [0], [30, 3, 1, 1, 159]), (20, [0], [30, -3, -1, 1, 159])], [(20, [0], [50, 2, 1, 158, 157, 160, 2, 12, 0, 7, 4, 3, 2, 0, 158, 0, 1, 2, 0, 157, 2, 7, 0, 3, 2, 0, 157, 0, 2010, 3, 14, 1, 10, 3, 0, 160, 5, 3, 2, 0, 157, 0, 1, 0, 0, 1, 10, 3, 0, 160, 5, 3, 2, 0, 157, 0, 1, 0, 4]), (20, [1, 0], [30, 0, 1, 0, 0, -1, 1, 158]), (20, [0], [30, 3, 1, 1, 159]), (20, [0], [30, -3, -1, 1, 159])], [(0, 0, 2009, [])]))
abbrev b_Mo_sum_at_f4 : ByteArray := prog_15_method_224_code
def y_Mo_sum_at_f4 : MethodName := ⟨"DrawingHouseModel", "sum", "()J"⟩
abbrev z_Mo_sum_at_f4 : List Cond := Cond.code y_Mo_sum_at_f4 b_Mo_sum_at_f4 6 (some .long) :: lw_g
def e_Mo_sum_at_f4 : en_T := ([(2, 0, 0, [150])], some (1, -9223372036854775808, 9223372036854775807, []), false, 35, 0, 0, [], [], (0, [(13, 8), (13, 9), (13, 158), (13, 159)], [(20, [0], [50, 2, 1, 158, 157, 160, 2, 12, 0, 7, 4, 3, 2, 0, 158, 0, 1, 2, 0, 157, 2, 7, 0, 3, 2, 0, 157, 0, 2010, 3, 14, 1, 10, 3, 0, 160, 5, 3, 2, 0, 157, 0, 1, 0, 0, 1, 10, 3, 0, 160, 5, 3, 2, 0, 157, 0, 1, 0, 4]), (20, [0, 1], [30, 0, 1, 1, 158, -1, 0, 0]), (20, [0, 1], [30, 0, -1, 1, 158, 1, 0, 0]), (20, [0], [50, 2, 0, 164, 165, 4, 7, 1, 3, 2, 0, 164, 0, 0, 0, 3, 2, 0, 165, 0, 23]), (20, [0], [30, 4, 1, 1, 159]), (20, [0], [30, -4, -1, 1, 159])], [(20, [0], [50, 2, 1, 158, 157, 160, 2, 12, 0, 7, 4, 3, 2, 0, 158, 0, 1, 2, 0, 157, 2, 7, 0, 3, 2, 0, 157, 0, 2010, 3, 14, 1, 10, 3, 0, 160, 5, 3, 2, 0, 157, 0, 1, 0, 0, 1, 10, 3, 0, 160, 5, 3, 2, 0, 157, 0, 1, 0, 4]), (20, [1, 0], [30, 0, 1, 0, 0, -1, 1, 158]), (20, [0], [30, 4, 1, 1, 159]), (20, [0], [30, -4, -1, 1, 159])], [(0, 0, 2009, [])]))
abbrev b_Mo_sum_at_f5 : ByteArray := prog_15_method_224_code
def y_Mo_sum_at_f5 : MethodName := ⟨"DrawingHouseModel", "sum", "()J"⟩
abbrev z_Mo_sum_at_f5 : List Cond := Cond.code y_Mo_sum_at_f5 b_Mo_sum_at_f5 6 (some .long) :: lw_g
def e_Mo_sum_at_f5 : en_T := ([(2, 0, 0, [150])], some (1, -9223372036854775808, 9223372036854775807, []), false, 32, 0, 0, [], [], (0, [(13, 8), (13, 9), (13, 158), (13, 159)], [(20, [0], [50, 2, 1, 158, 157, 160, 2, 12, 0, 7, 4, 3, 2, 0, 158, 0, 1, 2, 0, 157, 2, 7, 0, 3, 2, 0, 157, 0, 2010, 3, 14, 1, 10, 3, 0, 160, 5, 3, 2, 0, 157, 0, 1, 0, 0, 1, 10, 3, 0, 160, 5, 3, 2, 0, 157, 0, 1, 0, 4]), (20, [0, 1], [30, 0, 1, 1, 158, -1, 0, 0]), (20, [0, 1], [30, 0, -1, 1, 158, 1, 0, 0]), (20, [0], [50, 2, 0, 164, 165, 4, 7, 1, 3, 2, 0, 164, 0, 0, 0, 3, 2, 0, 165, 0, 23]), (20, [0], [30, 5, 1, 1, 159]), (20, [0], [30, -5, -1, 1, 159])], [(20, [0], [50, 2, 1, 158, 157, 160, 2, 12, 0, 7, 4, 3, 2, 0, 158, 0, 1, 2, 0, 157, 2, 7, 0, 3, 2, 0, 157, 0, 2010, 3, 14, 1, 10, 3, 0, 160, 5, 3, 2, 0, 157, 0, 1, 0, 0, 1, 10, 3, 0, 160, 5, 3, 2, 0, 157, 0, 1, 0, 4]), (20, [1, 0], [30, 0, 1, 0, 0, -1, 1, 158]), (20, [0], [30, 5, 1, 1, 159]), (20, [0], [30, -5, -1, 1, 159])], [(0, 0, 2009, [])]))
abbrev b_Mo_sum_at_f6 : ByteArray := prog_15_method_224_code
def y_Mo_sum_at_f6 : MethodName := ⟨"DrawingHouseModel", "sum", "()J"⟩
abbrev z_Mo_sum_at_f6 : List Cond := Cond.code y_Mo_sum_at_f6 b_Mo_sum_at_f6 6 (some .long) :: lw_g
def e_Mo_sum_at_f6 : en_T := ([(2, 0, 0, [150])], some (1, -9223372036854775808, 9223372036854775807, []), false, 29, 0, 0, [], [], (0, [(13, 8), (13, 9), (13, 158), (13, 159)], [(20, [0], [50, 2, 1, 158, 157, 160, 2, 12, 0, 7, 4, 3, 2, 0, 158, 0, 1, 2, 0, 157, 2, 7, 0, 3, 2, 0, 157, 0, 2010, 3, 14, 1, 10, 3, 0, 160, 5, 3, 2, 0, 157, 0, 1, 0, 0, 1, 10, 3, 0, 160, 5, 3, 2, 0, 157, 0, 1, 0, 4]), (20, [0, 1], [30, 0, 1, 1, 158, -1, 0, 0]), (20, [0, 1], [30, 0, -1, 1, 158, 1, 0, 0]), (20, [0], [50, 2, 0, 164, 165, 4, 7, 1, 3, 2, 0, 164, 0, 0, 0, 3, 2, 0, 165, 0, 23]), (20, [0], [30, 6, 1, 1, 159]), (20, [0], [30, -6, -1, 1, 159])], [(20, [0], [50, 2, 1, 158, 157, 160, 2, 12, 0, 7, 4, 3, 2, 0, 158, 0, 1, 2, 0, 157, 2, 7, 0, 3, 2, 0, 157, 0, 2010, 3, 14, 1, 10, 3, 0, 160, 5, 3, 2, 0, 157, 0, 1, 0, 0, 1, 10, 3, 0, 160, 5, 3, 2, 0, 157, 0, 1, 0, 4]), (20, [1, 0], [30, 0, 1, 0, 0, -1, 1, 158]), (20, [0], [30, 6, 1, 1, 159]), (20, [0], [30, -6, -1, 1, 159])], [(0, 0, 2009, [])]))
abbrev b_Mo_sum_at_f7 : ByteArray := prog_15_method_224_code
def y_Mo_sum_at_f7 : MethodName := ⟨"DrawingHouseModel", "sum", "()J"⟩
abbrev z_Mo_sum_at_f7 : List Cond := Cond.code y_Mo_sum_at_f7 b_Mo_sum_at_f7 6 (some .long) :: lw_g
def e_Mo_sum_at_f7 : en_T := ([(2, 0, 0, [150])], some (1, -9223372036854775808, 9223372036854775807, []), false, 26, 0, 0, [], [], (0, [(13, 8), (13, 9), (13, 158), (13, 159)], [(20, [0], [50, 2, 1, 158, 157, 160, 2, 12, 0, 7, 4, 3, 2, 0, 158, 0, 1, 2, 0, 157, 2, 7, 0, 3, 2, 0, 157, 0, 2010, 3, 14, 1, 10, 3, 0, 160, 5, 3, 2, 0, 157, 0, 1, 0, 0, 1, 10, 3, 0, 160, 5, 3, 2, 0, 157, 0, 1, 0, 4]), (20, [0, 1], [30, 0, 1, 1, 158, -1, 0, 0]), (20, [0, 1], [30, 0, -1, 1, 158, 1, 0, 0]), (20, [0], [50, 2, 0, 164, 165, 4, 7, 1, 3, 2, 0, 164, 0, 0, 0, 3, 2, 0, 165, 0, 23]), (20, [0], [30, 7, 1, 1, 159]), (20, [0], [30, -7, -1, 1, 159])], [(20, [0], [50, 2, 1, 158, 157, 160, 2, 12, 0, 7, 4, 3, 2, 0, 158, 0, 1, 2, 0, 157, 2, 7, 0, 3, 2, 0, 157, 0, 2010, 3, 14, 1, 10, 3, 0, 160, 5, 3, 2, 0, 157, 0, 1, 0, 0, 1, 10, 3, 0, 160, 5, 3, 2, 0, 157, 0, 1, 0, 4]), (20, [1, 0], [30, 0, 1, 0, 0, -1, 1, 158]), (20, [0], [30, 7, 1, 1, 159]), (20, [0], [30, -7, -1, 1, 159])], [(0, 0, 2009, [])]))
abbrev b_Mo_sum_at_f8 : ByteArray := prog_15_method_224_code
def y_Mo_sum_at_f8 : MethodName := ⟨"DrawingHouseModel", "sum", "()J"⟩
abbrev z_Mo_sum_at_f8 : List Cond := Cond.code y_Mo_sum_at_f8 b_Mo_sum_at_f8 6 (some .long) :: lw_g
def e_Mo_sum_at_f8 : en_T := ([(2, 0, 0, [150])], some (1, -9223372036854775808, 9223372036854775807, []), false, 23, 0, 0, [], [], (0, [(13, 8), (13, 9), (13, 158), (13, 159)], [(20, [0], [50, 2, 1, 158, 157, 160, 2, 12, 0, 7, 4, 3, 2, 0, 158, 0, 1, 2, 0, 157, 2, 7, 0, 3, 2, 0, 157, 0, 2010, 3, 14, 1, 10, 3, 0, 160, 5, 3, 2, 0, 157, 0, 1, 0, 0, 1, 10, 3, 0, 160, 5, 3, 2, 0, 157, 0, 1, 0, 4]), (20, [0, 1], [30, 0, 1, 1, 158, -1, 0, 0]), (20, [0, 1], [30, 0, -1, 1, 158, 1, 0, 0]), (20, [0], [50, 2, 0, 164, 165, 4, 7, 1, 3, 2, 0, 164, 0, 0, 0, 3, 2, 0, 165, 0, 23]), (20, [0], [30, 8, 1, 1, 159]), (20, [0], [30, -8, -1, 1, 159])], [(20, [0], [50, 2, 1, 158, 157, 160, 2, 12, 0, 7, 4, 3, 2, 0, 158, 0, 1, 2, 0, 157, 2, 7, 0, 3, 2, 0, 157, 0, 2010, 3, 14, 1, 10, 3, 0, 160, 5, 3, 2, 0, 157, 0, 1, 0, 0, 1, 10, 3, 0, 160, 5, 3, 2, 0, 157, 0, 1, 0, 4]), (20, [1, 0], [30, 0, 1, 0, 0, -1, 1, 158]), (20, [0], [30, 8, 1, 1, 159]), (20, [0], [30, -8, -1, 1, 159])], [(0, 0, 2009, [])]))
abbrev b_Mo_sum_at_f9 : ByteArray := prog_15_method_224_code
def y_Mo_sum_at_f9 : MethodName := ⟨"DrawingHouseModel", "sum", "()J"⟩
abbrev z_Mo_sum_at_f9 : List Cond := Cond.code y_Mo_sum_at_f9 b_Mo_sum_at_f9 6 (some .long) :: lw_g
def e_Mo_sum_at_f9 : en_T := ([(2, 0, 0, [150])], some (1, -9223372036854775808, 9223372036854775807, []), false, 20, 0, 0, [], [], (0, [(13, 8), (13, 9), (13, 158), (13, 159)], [(20, [0], [50, 2, 1, 158, 157, 160, 2, 12, 0, 7, 4, 3, 2, 0, 158, 0, 1, 2, 0, 157, 2, 7, 0, 3, 2, 0, 157, 0, 2010, 3, 14, 1, 10, 3, 0, 160, 5, 3, 2, 0, 157, 0, 1, 0, 0, 1, 10, 3, 0, 160, 5, 3, 2, 0, 157, 0, 1, 0, 4]), (20, [0, 1], [30, 0, 1, 1, 158, -1, 0, 0]), (20, [0, 1], [30, 0, -1, 1, 158, 1, 0, 0]), (20, [0], [50, 2, 0, 164, 165, 4, 7, 1, 3, 2, 0, 164, 0, 0, 0, 3, 2, 0, 165, 0, 23]), (20, [0], [30, 9, 1, 1, 159]), (20, [0], [30, -9, -1, 1, 159])], [(20, [0], [50, 2, 1, 158, 157, 160, 2, 12, 0, 7, 4, 3, 2, 0, 158, 0, 1, 2, 0, 157, 2, 7, 0, 3, 2, 0, 157, 0, 2010, 3, 14, 1, 10, 3, 0, 160, 5, 3, 2, 0, 157, 0, 1, 0, 0, 1, 10, 3, 0, 160, 5, 3, 2, 0, 157, 0, 1, 0, 4]), (20, [1, 0], [30, 0, 1, 0, 0, -1, 1, 158]), (20, [0], [30, 9, 1, 1, 159]), (20, [0], [30, -9, -1, 1, 159])], [(0, 0, 2009, [])]))
abbrev b_Ho_planar : ByteArray := prog_1_method_15_code
def y_Ho_planar : MethodName := ⟨"DrawingHouse", "planar", "(II)I"⟩
abbrev z_Ho_planar : List Cond := Cond.code y_Ho_planar b_Ho_planar 4 (some .int) :: lw_g
def e_Ho_planar : en_T := ([(2, 0, 0, [12]), (0, -2147483648, 2147483647, []), (0, -2147483648, 2147483647, [])], some (0, -1, 144, []), false, 12, 0, 0, [], [], (712230049778193471658784469088133964216926208, [(1, 0), (1, 5), (1, 6), (1, 7), (1, 15), (1, 16), (1, 17), (1, 18), (5, 0), (5, 1), (5, 2), (5, 3), (5, 5), (5, 6), (5, 13)], [], [], []))
abbrev b_Mo_both_at_f0 : ByteArray := prog_15_method_222_code
def y_Mo_both_at_f0 : MethodName := ⟨"DrawingHouseModel", "both", "()Z"⟩
abbrev z_Mo_both_at_f0 : List Cond := Cond.code y_Mo_both_at_f0 b_Mo_both_at_f0 3 (some .boolean) :: lw_g
def e_Mo_both_at_f0 : en_T := ([(2, 0, 0, [150])], some (0, 0, 1, []), false, 49, 0, 0, [], [], (0, [(13, 8), (13, 9), (13, 158), (13, 159)], [(20, [0], [50, 2, 1, 158, 157, 160, 2, 12, 0, 7, 4, 3, 2, 0, 158, 0, 1, 2, 0, 157, 2, 7, 0, 3, 2, 0, 157, 0, 2010, 3, 14, 1, 10, 3, 0, 160, 5, 3, 2, 0, 157, 0, 1, 0, 0, 1, 10, 3, 0, 160, 5, 3, 2, 0, 157, 0, 1, 0, 4]), (20, [0, 1], [30, 0, 1, 1, 158, -1, 0, 0]), (20, [0, 1], [30, 0, -1, 1, 158, 1, 0, 0]), (20, [0], [50, 2, 0, 164, 165, 4, 7, 1, 3, 2, 0, 164, 0, 0, 0, 3, 2, 0, 165, 0, 23]), (20, [0], [30, 0, 1, 1, 159]), (20, [0], [30, 0, -1, 1, 159])], [(20, [0], [50, 2, 1, 158, 157, 160, 2, 12, 0, 7, 4, 3, 2, 0, 158, 0, 1, 2, 0, 157, 2, 7, 0, 3, 2, 0, 157, 0, 2010, 3, 14, 1, 10, 3, 0, 160, 5, 3, 2, 0, 157, 0, 1, 0, 0, 1, 10, 3, 0, 160, 5, 3, 2, 0, 157, 0, 1, 0, 4]), (20, [1, 0], [30, 0, 1, 0, 0, -1, 1, 158]), (20, [0], [30, 0, 1, 1, 159]), (20, [0], [30, 0, -1, 1, 159])], [(0, 0, 2009, [])]))
abbrev b_Mo_both_at_f1 : ByteArray := prog_15_method_222_code
def y_Mo_both_at_f1 : MethodName := ⟨"DrawingHouseModel", "both", "()Z"⟩
abbrev z_Mo_both_at_f1 : List Cond := Cond.code y_Mo_both_at_f1 b_Mo_both_at_f1 3 (some .boolean) :: lw_g
def e_Mo_both_at_f1 : en_T := ([(2, 0, 0, [150])], some (0, 0, 1, []), false, 46, 0, 0, [], [], (0, [(13, 8), (13, 9), (13, 158), (13, 159)], [(20, [0], [50, 2, 1, 158, 157, 160, 2, 12, 0, 7, 4, 3, 2, 0, 158, 0, 1, 2, 0, 157, 2, 7, 0, 3, 2, 0, 157, 0, 2010, 3, 14, 1, 10, 3, 0, 160, 5, 3, 2, 0, 157, 0, 1, 0, 0, 1, 10, 3, 0, 160, 5, 3, 2, 0, 157, 0, 1, 0, 4]), (20, [0, 1], [30, 0, 1, 1, 158, -1, 0, 0]), (20, [0, 1], [30, 0, -1, 1, 158, 1, 0, 0]), (20, [0], [50, 2, 0, 164, 165, 4, 7, 1, 3, 2, 0, 164, 0, 0, 0, 3, 2, 0, 165, 0, 23]), (20, [0], [30, 1, 1, 1, 159]), (20, [0], [30, -1, -1, 1, 159])], [(20, [0], [50, 2, 1, 158, 157, 160, 2, 12, 0, 7, 4, 3, 2, 0, 158, 0, 1, 2, 0, 157, 2, 7, 0, 3, 2, 0, 157, 0, 2010, 3, 14, 1, 10, 3, 0, 160, 5, 3, 2, 0, 157, 0, 1, 0, 0, 1, 10, 3, 0, 160, 5, 3, 2, 0, 157, 0, 1, 0, 4]), (20, [1, 0], [30, 0, 1, 0, 0, -1, 1, 158]), (20, [0], [30, 1, 1, 1, 159]), (20, [0], [30, -1, -1, 1, 159])], [(0, 0, 2009, [])]))
abbrev b_Mo_both_at_f10 : ByteArray := prog_15_method_222_code
def y_Mo_both_at_f10 : MethodName := ⟨"DrawingHouseModel", "both", "()Z"⟩
abbrev z_Mo_both_at_f10 : List Cond := Cond.code y_Mo_both_at_f10 b_Mo_both_at_f10 3 (some .boolean) :: lw_g
def e_Mo_both_at_f10 : en_T := ([(2, 0, 0, [150])], some (0, 0, 1, []), false, 19, 0, 0, [], [], (0, [(13, 8), (13, 9), (13, 158), (13, 159)], [(20, [0], [50, 2, 1, 158, 157, 160, 2, 12, 0, 7, 4, 3, 2, 0, 158, 0, 1, 2, 0, 157, 2, 7, 0, 3, 2, 0, 157, 0, 2010, 3, 14, 1, 10, 3, 0, 160, 5, 3, 2, 0, 157, 0, 1, 0, 0, 1, 10, 3, 0, 160, 5, 3, 2, 0, 157, 0, 1, 0, 4]), (20, [0, 1], [30, 0, 1, 1, 158, -1, 0, 0]), (20, [0, 1], [30, 0, -1, 1, 158, 1, 0, 0]), (20, [0], [50, 2, 0, 164, 165, 4, 7, 1, 3, 2, 0, 164, 0, 0, 0, 3, 2, 0, 165, 0, 23]), (20, [0], [30, 10, 1, 1, 159]), (20, [0], [30, -10, -1, 1, 159])], [(20, [0], [50, 2, 1, 158, 157, 160, 2, 12, 0, 7, 4, 3, 2, 0, 158, 0, 1, 2, 0, 157, 2, 7, 0, 3, 2, 0, 157, 0, 2010, 3, 14, 1, 10, 3, 0, 160, 5, 3, 2, 0, 157, 0, 1, 0, 0, 1, 10, 3, 0, 160, 5, 3, 2, 0, 157, 0, 1, 0, 4]), (20, [1, 0], [30, 0, 1, 0, 0, -1, 1, 158]), (20, [0], [30, 10, 1, 1, 159]), (20, [0], [30, -10, -1, 1, 159])], [(0, 0, 2009, [])]))
abbrev b_Mo_both_at_f11 : ByteArray := prog_15_method_222_code
def y_Mo_both_at_f11 : MethodName := ⟨"DrawingHouseModel", "both", "()Z"⟩
abbrev z_Mo_both_at_f11 : List Cond := Cond.code y_Mo_both_at_f11 b_Mo_both_at_f11 3 (some .boolean) :: lw_g
def e_Mo_both_at_f11 : en_T := ([(2, 0, 0, [150])], some (0, 0, 1, []), false, 16, 0, 0, [], [], (0, [(13, 8), (13, 9), (13, 158), (13, 159)], [(20, [0], [50, 2, 1, 158, 157, 160, 2, 12, 0, 7, 4, 3, 2, 0, 158, 0, 1, 2, 0, 157, 2, 7, 0, 3, 2, 0, 157, 0, 2010, 3, 14, 1, 10, 3, 0, 160, 5, 3, 2, 0, 157, 0, 1, 0, 0, 1, 10, 3, 0, 160, 5, 3, 2, 0, 157, 0, 1, 0, 4]), (20, [0, 1], [30, 0, 1, 1, 158, -1, 0, 0]), (20, [0, 1], [30, 0, -1, 1, 158, 1, 0, 0]), (20, [0], [50, 2, 0, 164, 165, 4, 7, 1, 3, 2, 0, 164, 0, 0, 0, 3, 2, 0, 165, 0, 23]), (20, [0], [30, 11, 1, 1, 159]), (20, [0], [30, -11, -1, 1, 159])], [(20, [0], [50, 2, 1, 158, 157, 160, 2, 12, 0, 7, 4, 3, 2, 0, 158, 0, 1, 2, 0, 157, 2, 7, 0, 3, 2, 0, 157, 0, 2010, 3, 14, 1, 10, 3, 0, 160, 5, 3, 2, 0, 157, 0, 1, 0, 0, 1, 10, 3, 0, 160, 5, 3, 2, 0, 157, 0, 1, 0, 4]), (20, [1, 0], [30, 0, 1, 0, 0, -1, 1, 158]), (20, [0], [30, 11, 1, 1, 159]), (20, [0], [30, -11, -1, 1, 159])], [(0, 0, 2009, [])]))
abbrev b_Mo_both_at_f12 : ByteArray := prog_15_method_222_code
def y_Mo_both_at_f12 : MethodName := ⟨"DrawingHouseModel", "both", "()Z"⟩
abbrev z_Mo_both_at_f12 : List Cond := Cond.code y_Mo_both_at_f12 b_Mo_both_at_f12 3 (some .boolean) :: lw_g
def e_Mo_both_at_f12 : en_T := ([(2, 0, 0, [150])], some (0, 0, 1, []), false, 13, 0, 0, [], [], (0, [(13, 8), (13, 9), (13, 158), (13, 159)], [(20, [0], [50, 2, 1, 158, 157, 160, 2, 12, 0, 7, 4, 3, 2, 0, 158, 0, 1, 2, 0, 157, 2, 7, 0, 3, 2, 0, 157, 0, 2010, 3, 14, 1, 10, 3, 0, 160, 5, 3, 2, 0, 157, 0, 1, 0, 0, 1, 10, 3, 0, 160, 5, 3, 2, 0, 157, 0, 1, 0, 4]), (20, [0, 1], [30, 0, 1, 1, 158, -1, 0, 0]), (20, [0, 1], [30, 0, -1, 1, 158, 1, 0, 0]), (20, [0], [50, 2, 0, 164, 165, 4, 7, 1, 3, 2, 0, 164, 0, 0, 0, 3, 2, 0, 165, 0, 23]), (20, [0], [30, 12, 1, 1, 159]), (20, [0], [30, -12, -1, 1, 159])], [(20, [0], [50, 2, 1, 158, 157, 160, 2, 12, 0, 7, 4, 3, 2, 0, 158, 0, 1, 2, 0, 157, 2, 7, 0, 3, 2, 0, 157, 0, 2010, 3, 14, 1, 10, 3, 0, 160, 5, 3, 2, 0, 157, 0, 1, 0, 0, 1, 10, 3, 0, 160, 5, 3, 2, 0, 157, 0, 1, 0, 4]), (20, [1, 0], [30, 0, 1, 0, 0, -1, 1, 158]), (20, [0], [30, 12, 1, 1, 159]), (20, [0], [30, -12, -1, 1, 159])], [(0, 0, 2009, [])]))
abbrev b_Mo_both_at_f13 : ByteArray := prog_15_method_222_code
def y_Mo_both_at_f13 : MethodName := ⟨"DrawingHouseModel", "both", "()Z"⟩
abbrev z_Mo_both_at_f13 : List Cond := Cond.code y_Mo_both_at_f13 b_Mo_both_at_f13 3 (some .boolean) :: lw_g
def e_Mo_both_at_f13 : en_T := ([(2, 0, 0, [150])], some (0, 0, 0, []), false, 8, 0, 0, [], [], (0, [(13, 8), (13, 9), (13, 158), (13, 159)], [(20, [0], [50, 2, 1, 158, 157, 160, 2, 12, 0, 7, 4, 3, 2, 0, 158, 0, 1, 2, 0, 157, 2, 7, 0, 3, 2, 0, 157, 0, 2010, 3, 14, 1, 10, 3, 0, 160, 5, 3, 2, 0, 157, 0, 1, 0, 0, 1, 10, 3, 0, 160, 5, 3, 2, 0, 157, 0, 1, 0, 4]), (20, [0, 1], [30, 0, 1, 1, 158, -1, 0, 0]), (20, [0, 1], [30, 0, -1, 1, 158, 1, 0, 0]), (20, [0], [50, 2, 0, 164, 165, 4, 7, 1, 3, 2, 0, 164, 0, 0, 0, 3, 2, 0, 165, 0, 23]), (20, [0], [30, 13, 1, 1, 159]), (20, [0], [30, -13, -1, 1, 159]), (20, [0], [30, -1, -1, 1, 8])], [(20, [0], [50, 2, 1, 158, 157, 160, 2, 12, 0, 7, 4, 3, 2, 0, 158, 0, 1, 2, 0, 157, 2, 7, 0, 3, 2, 0, 157, 0, 2010, 3, 14, 1, 10, 3, 0, 160, 5, 3, 2, 0, 157, 0, 1, 0, 0, 1, 10, 3, 0, 160, 5, 3, 2, 0, 157, 0, 1, 0, 4]), (20, [1, 0], [30, 0, 1, 0, 0, -1, 1, 158]), (20, [0], [30, 13, 1, 1, 159]), (20, [0], [30, -13, -1, 1, 159]), (20, [0], [30, -1, -1, 1, 8])], [(0, 0, 2009, [])]))
abbrev b_Mo_both_at_f2 : ByteArray := prog_15_method_222_code
def y_Mo_both_at_f2 : MethodName := ⟨"DrawingHouseModel", "both", "()Z"⟩
abbrev z_Mo_both_at_f2 : List Cond := Cond.code y_Mo_both_at_f2 b_Mo_both_at_f2 3 (some .boolean) :: lw_g
def e_Mo_both_at_f2 : en_T := ([(2, 0, 0, [150])], some (0, 0, 1, []), false, 43, 0, 0, [], [], (0, [(13, 8), (13, 9), (13, 158), (13, 159)], [(20, [0], [50, 2, 1, 158, 157, 160, 2, 12, 0, 7, 4, 3, 2, 0, 158, 0, 1, 2, 0, 157, 2, 7, 0, 3, 2, 0, 157, 0, 2010, 3, 14, 1, 10, 3, 0, 160, 5, 3, 2, 0, 157, 0, 1, 0, 0, 1, 10, 3, 0, 160, 5, 3, 2, 0, 157, 0, 1, 0, 4]), (20, [0, 1], [30, 0, 1, 1, 158, -1, 0, 0]), (20, [0, 1], [30, 0, -1, 1, 158, 1, 0, 0]), (20, [0], [50, 2, 0, 164, 165, 4, 7, 1, 3, 2, 0, 164, 0, 0, 0, 3, 2, 0, 165, 0, 23]), (20, [0], [30, 2, 1, 1, 159]), (20, [0], [30, -2, -1, 1, 159])], [(20, [0], [50, 2, 1, 158, 157, 160, 2, 12, 0, 7, 4, 3, 2, 0, 158, 0, 1, 2, 0, 157, 2, 7, 0, 3, 2, 0, 157, 0, 2010, 3, 14, 1, 10, 3, 0, 160, 5, 3, 2, 0, 157, 0, 1, 0, 0, 1, 10, 3, 0, 160, 5, 3, 2, 0, 157, 0, 1, 0, 4]), (20, [1, 0], [30, 0, 1, 0, 0, -1, 1, 158]), (20, [0], [30, 2, 1, 1, 159]), (20, [0], [30, -2, -1, 1, 159])], [(0, 0, 2009, [])]))
abbrev b_Mo_both_at_f3 : ByteArray := prog_15_method_222_code
def y_Mo_both_at_f3 : MethodName := ⟨"DrawingHouseModel", "both", "()Z"⟩
abbrev z_Mo_both_at_f3 : List Cond := Cond.code y_Mo_both_at_f3 b_Mo_both_at_f3 3 (some .boolean) :: lw_g
def e_Mo_both_at_f3 : en_T := ([(2, 0, 0, [150])], some (0, 0, 1, []), false, 40, 0, 0, [], [], (0, [(13, 8), (13, 9), (13, 158), (13, 159)], [(20, [0], [50, 2, 1, 158, 157, 160, 2, 12, 0, 7, 4, 3, 2, 0, 158, 0, 1, 2, 0, 157, 2, 7, 0, 3, 2, 0, 157, 0, 2010, 3, 14, 1, 10, 3, 0, 160, 5, 3, 2, 0, 157, 0, 1, 0, 0, 1, 10, 3, 0, 160, 5, 3, 2, 0, 157, 0, 1, 0, 4]), (20, [0, 1], [30, 0, 1, 1, 158, -1, 0, 0]), (20, [0, 1], [30, 0, -1, 1, 158, 1, 0, 0]), (20, [0], [50, 2, 0, 164, 165, 4, 7, 1, 3, 2, 0, 164, 0, 0, 0, 3, 2, 0, 165, 0, 23]), (20, [0], [30, 3, 1, 1, 159]), (20, [0], [30, -3, -1, 1, 159])], [(20, [0], [50, 2, 1, 158, 157, 160, 2, 12, 0, 7, 4, 3, 2, 0, 158, 0, 1, 2, 0, 157, 2, 7, 0, 3, 2, 0, 157, 0, 2010, 3, 14, 1, 10, 3, 0, 160, 5, 3, 2, 0, 157, 0, 1, 0, 0, 1, 10, 3, 0, 160, 5, 3, 2, 0, 157, 0, 1, 0, 4]), (20, [1, 0], [30, 0, 1, 0, 0, -1, 1, 158]), (20, [0], [30, 3, 1, 1, 159]), (20, [0], [30, -3, -1, 1, 159])], [(0, 0, 2009, [])]))
abbrev b_Mo_both_at_f4 : ByteArray := prog_15_method_222_code
def y_Mo_both_at_f4 : MethodName := ⟨"DrawingHouseModel", "both", "()Z"⟩
abbrev z_Mo_both_at_f4 : List Cond := Cond.code y_Mo_both_at_f4 b_Mo_both_at_f4 3 (some .boolean) :: lw_g
def e_Mo_both_at_f4 : en_T := ([(2, 0, 0, [150])], some (0, 0, 1, []), false, 37, 0, 0, [], [], (0, [(13, 8), (13, 9), (13, 158), (13, 159)], [(20, [0], [50, 2, 1, 158, 157, 160, 2, 12, 0, 7, 4, 3, 2, 0, 158, 0, 1, 2, 0, 157, 2, 7, 0, 3, 2, 0, 157, 0, 2010, 3, 14, 1, 10, 3, 0, 160, 5, 3, 2, 0, 157, 0, 1, 0, 0, 1, 10, 3, 0, 160, 5, 3, 2, 0, 157, 0, 1, 0, 4]), (20, [0, 1], [30, 0, 1, 1, 158, -1, 0, 0]), (20, [0, 1], [30, 0, -1, 1, 158, 1, 0, 0]), (20, [0], [50, 2, 0, 164, 165, 4, 7, 1, 3, 2, 0, 164, 0, 0, 0, 3, 2, 0, 165, 0, 23]), (20, [0], [30, 4, 1, 1, 159]), (20, [0], [30, -4, -1, 1, 159])], [(20, [0], [50, 2, 1, 158, 157, 160, 2, 12, 0, 7, 4, 3, 2, 0, 158, 0, 1, 2, 0, 157, 2, 7, 0, 3, 2, 0, 157, 0, 2010, 3, 14, 1, 10, 3, 0, 160, 5, 3, 2, 0, 157, 0, 1, 0, 0, 1, 10, 3, 0, 160, 5, 3, 2, 0, 157, 0, 1, 0, 4]), (20, [1, 0], [30, 0, 1, 0, 0, -1, 1, 158]), (20, [0], [30, 4, 1, 1, 159]), (20, [0], [30, -4, -1, 1, 159])], [(0, 0, 2009, [])]))
abbrev b_Mo_both_at_f5 : ByteArray := prog_15_method_222_code
def y_Mo_both_at_f5 : MethodName := ⟨"DrawingHouseModel", "both", "()Z"⟩
abbrev z_Mo_both_at_f5 : List Cond := Cond.code y_Mo_both_at_f5 b_Mo_both_at_f5 3 (some .boolean) :: lw_g
def e_Mo_both_at_f5 : en_T := ([(2, 0, 0, [150])], some (0, 0, 1, []), false, 34, 0, 0, [], [], (0, [(13, 8), (13, 9), (13, 158), (13, 159)], [(20, [0], [50, 2, 1, 158, 157, 160, 2, 12, 0, 7, 4, 3, 2, 0, 158, 0, 1, 2, 0, 157, 2, 7, 0, 3, 2, 0, 157, 0, 2010, 3, 14, 1, 10, 3, 0, 160, 5, 3, 2, 0, 157, 0, 1, 0, 0, 1, 10, 3, 0, 160, 5, 3, 2, 0, 157, 0, 1, 0, 4]), (20, [0, 1], [30, 0, 1, 1, 158, -1, 0, 0]), (20, [0, 1], [30, 0, -1, 1, 158, 1, 0, 0]), (20, [0], [50, 2, 0, 164, 165, 4, 7, 1, 3, 2, 0, 164, 0, 0, 0, 3, 2, 0, 165, 0, 23]), (20, [0], [30, 5, 1, 1, 159]), (20, [0], [30, -5, -1, 1, 159])], [(20, [0], [50, 2, 1, 158, 157, 160, 2, 12, 0, 7, 4, 3, 2, 0, 158, 0, 1, 2, 0, 157, 2, 7, 0, 3, 2, 0, 157, 0, 2010, 3, 14, 1, 10, 3, 0, 160, 5, 3, 2, 0, 157, 0, 1, 0, 0, 1, 10, 3, 0, 160, 5, 3, 2, 0, 157, 0, 1, 0, 4]), (20, [1, 0], [30, 0, 1, 0, 0, -1, 1, 158]), (20, [0], [30, 5, 1, 1, 159]), (20, [0], [30, -5, -1, 1, 159])], [(0, 0, 2009, [])]))
abbrev b_Mo_both_at_f6 : ByteArray := prog_15_method_222_code
def y_Mo_both_at_f6 : MethodName := ⟨"DrawingHouseModel", "both", "()Z"⟩
abbrev z_Mo_both_at_f6 : List Cond := Cond.code y_Mo_both_at_f6 b_Mo_both_at_f6 3 (some .boolean) :: lw_g
def e_Mo_both_at_f6 : en_T := ([(2, 0, 0, [150])], some (0, 0, 1, []), false, 31, 0, 0, [], [], (0, [(13, 8), (13, 9), (13, 158), (13, 159)], [(20, [0], [50, 2, 1, 158, 157, 160, 2, 12, 0, 7, 4, 3, 2, 0, 158, 0, 1, 2, 0, 157, 2, 7, 0, 3, 2, 0, 157, 0, 2010, 3, 14, 1, 10, 3, 0, 160, 5, 3, 2, 0, 157, 0, 1, 0, 0, 1, 10, 3, 0, 160, 5, 3, 2, 0, 157, 0, 1, 0, 4]), (20, [0, 1], [30, 0, 1, 1, 158, -1, 0, 0]), (20, [0, 1], [30, 0, -1, 1, 158, 1, 0, 0]), (20, [0], [50, 2, 0, 164, 165, 4, 7, 1, 3, 2, 0, 164, 0, 0, 0, 3, 2, 0, 165, 0, 23]), (20, [0], [30, 6, 1, 1, 159]), (20, [0], [30, -6, -1, 1, 159])], [(20, [0], [50, 2, 1, 158, 157, 160, 2, 12, 0, 7, 4, 3, 2, 0, 158, 0, 1, 2, 0, 157, 2, 7, 0, 3, 2, 0, 157, 0, 2010, 3, 14, 1, 10, 3, 0, 160, 5, 3, 2, 0, 157, 0, 1, 0, 0, 1, 10, 3, 0, 160, 5, 3, 2, 0, 157, 0, 1, 0, 4]), (20, [1, 0], [30, 0, 1, 0, 0, -1, 1, 158]), (20, [0], [30, 6, 1, 1, 159]), (20, [0], [30, -6, -1, 1, 159])], [(0, 0, 2009, [])]))
abbrev b_Mo_both_at_f7 : ByteArray := prog_15_method_222_code
def y_Mo_both_at_f7 : MethodName := ⟨"DrawingHouseModel", "both", "()Z"⟩
abbrev z_Mo_both_at_f7 : List Cond := Cond.code y_Mo_both_at_f7 b_Mo_both_at_f7 3 (some .boolean) :: lw_g
def e_Mo_both_at_f7 : en_T := ([(2, 0, 0, [150])], some (0, 0, 1, []), false, 28, 0, 0, [], [], (0, [(13, 8), (13, 9), (13, 158), (13, 159)], [(20, [0], [50, 2, 1, 158, 157, 160, 2, 12, 0, 7, 4, 3, 2, 0, 158, 0, 1, 2, 0, 157, 2, 7, 0, 3, 2, 0, 157, 0, 2010, 3, 14, 1, 10, 3, 0, 160, 5, 3, 2, 0, 157, 0, 1, 0, 0, 1, 10, 3, 0, 160, 5, 3, 2, 0, 157, 0, 1, 0, 4]), (20, [0, 1], [30, 0, 1, 1, 158, -1, 0, 0]), (20, [0, 1], [30, 0, -1, 1, 158, 1, 0, 0]), (20, [0], [50, 2, 0, 164, 165, 4, 7, 1, 3, 2, 0, 164, 0, 0, 0, 3, 2, 0, 165, 0, 23]), (20, [0], [30, 7, 1, 1, 159]), (20, [0], [30, -7, -1, 1, 159])], [(20, [0], [50, 2, 1, 158, 157, 160, 2, 12, 0, 7, 4, 3, 2, 0, 158, 0, 1, 2, 0, 157, 2, 7, 0, 3, 2, 0, 157, 0, 2010, 3, 14, 1, 10, 3, 0, 160, 5, 3, 2, 0, 157, 0, 1, 0, 0, 1, 10, 3, 0, 160, 5, 3, 2, 0, 157, 0, 1, 0, 4]), (20, [1, 0], [30, 0, 1, 0, 0, -1, 1, 158]), (20, [0], [30, 7, 1, 1, 159]), (20, [0], [30, -7, -1, 1, 159])], [(0, 0, 2009, [])]))
abbrev b_Mo_both_at_f8 : ByteArray := prog_15_method_222_code
def y_Mo_both_at_f8 : MethodName := ⟨"DrawingHouseModel", "both", "()Z"⟩
abbrev z_Mo_both_at_f8 : List Cond := Cond.code y_Mo_both_at_f8 b_Mo_both_at_f8 3 (some .boolean) :: lw_g
def e_Mo_both_at_f8 : en_T := ([(2, 0, 0, [150])], some (0, 0, 1, []), false, 25, 0, 0, [], [], (0, [(13, 8), (13, 9), (13, 158), (13, 159)], [(20, [0], [50, 2, 1, 158, 157, 160, 2, 12, 0, 7, 4, 3, 2, 0, 158, 0, 1, 2, 0, 157, 2, 7, 0, 3, 2, 0, 157, 0, 2010, 3, 14, 1, 10, 3, 0, 160, 5, 3, 2, 0, 157, 0, 1, 0, 0, 1, 10, 3, 0, 160, 5, 3, 2, 0, 157, 0, 1, 0, 4]), (20, [0, 1], [30, 0, 1, 1, 158, -1, 0, 0]), (20, [0, 1], [30, 0, -1, 1, 158, 1, 0, 0]), (20, [0], [50, 2, 0, 164, 165, 4, 7, 1, 3, 2, 0, 164, 0, 0, 0, 3, 2, 0, 165, 0, 23]), (20, [0], [30, 8, 1, 1, 159]), (20, [0], [30, -8, -1, 1, 159])], [(20, [0], [50, 2, 1, 158, 157, 160, 2, 12, 0, 7, 4, 3, 2, 0, 158, 0, 1, 2, 0, 157, 2, 7, 0, 3, 2, 0, 157, 0, 2010, 3, 14, 1, 10, 3, 0, 160, 5, 3, 2, 0, 157, 0, 1, 0, 0, 1, 10, 3, 0, 160, 5, 3, 2, 0, 157, 0, 1, 0, 4]), (20, [1, 0], [30, 0, 1, 0, 0, -1, 1, 158]), (20, [0], [30, 8, 1, 1, 159]), (20, [0], [30, -8, -1, 1, 159])], [(0, 0, 2009, [])]))
abbrev b_Mo_both_at_f9 : ByteArray := prog_15_method_222_code
def y_Mo_both_at_f9 : MethodName := ⟨"DrawingHouseModel", "both", "()Z"⟩
abbrev z_Mo_both_at_f9 : List Cond := Cond.code y_Mo_both_at_f9 b_Mo_both_at_f9 3 (some .boolean) :: lw_g
def e_Mo_both_at_f9 : en_T := ([(2, 0, 0, [150])], some (0, 0, 1, []), false, 22, 0, 0, [], [], (0, [(13, 8), (13, 9), (13, 158), (13, 159)], [(20, [0], [50, 2, 1, 158, 157, 160, 2, 12, 0, 7, 4, 3, 2, 0, 158, 0, 1, 2, 0, 157, 2, 7, 0, 3, 2, 0, 157, 0, 2010, 3, 14, 1, 10, 3, 0, 160, 5, 3, 2, 0, 157, 0, 1, 0, 0, 1, 10, 3, 0, 160, 5, 3, 2, 0, 157, 0, 1, 0, 4]), (20, [0, 1], [30, 0, 1, 1, 158, -1, 0, 0]), (20, [0, 1], [30, 0, -1, 1, 158, 1, 0, 0]), (20, [0], [50, 2, 0, 164, 165, 4, 7, 1, 3, 2, 0, 164, 0, 0, 0, 3, 2, 0, 165, 0, 23]), (20, [0], [30, 9, 1, 1, 159]), (20, [0], [30, -9, -1, 1, 159])], [(20, [0], [50, 2, 1, 158, 157, 160, 2, 12, 0, 7, 4, 3, 2, 0, 158, 0, 1, 2, 0, 157, 2, 7, 0, 3, 2, 0, 157, 0, 2010, 3, 14, 1, 10, 3, 0, 160, 5, 3, 2, 0, 157, 0, 1, 0, 0, 1, 10, 3, 0, 160, 5, 3, 2, 0, 157, 0, 1, 0, 4]), (20, [1, 0], [30, 0, 1, 0, 0, -1, 1, 158]), (20, [0], [30, 9, 1, 1, 159]), (20, [0], [30, -9, -1, 1, 159])], [(0, 0, 2009, [])]))
abbrev b_Mo_layers : ByteArray := prog_15_method_124_code
def y_Mo_layers : MethodName := ⟨"DrawingHouseModel", "layers", "(I)I"⟩
abbrev z_Mo_layers : List Cond := Cond.code y_Mo_layers b_Mo_layers 10 (some .int) :: lw_g
def e_Mo_layers : en_T := ([(2, 0, 0, [150]), (0, 0, 3, [])], some (0, -2, 0, []), false, 11, 0, 0, [], [], (440202009180526334071233461799776403577563600856427378075108161827635200, [(13, 79), (13, 80), (13, 81), (13, 94), (13, 99), (13, 100), (13, 101), (13, 107)], [], [], []))
abbrev b_Mo_oneTest_at_f0 : ByteArray := prog_15_method_223_code
def y_Mo_oneTest_at_f0 : MethodName := ⟨"DrawingHouseModel", "oneTest", "()Z"⟩
abbrev z_Mo_oneTest_at_f0 : List Cond := Cond.code y_Mo_oneTest_at_f0 b_Mo_oneTest_at_f0 6 (some .boolean) :: lw_g
def e_Mo_oneTest_at_f0 : en_T := ([(2, 0, 0, [150])], some (0, 0, 1, []), false, 48, 0, 0, [], [], (0, [(13, 8), (13, 9), (13, 158), (13, 159)], [(20, [0], [50, 2, 1, 158, 157, 160, 2, 12, 0, 7, 4, 3, 2, 0, 158, 0, 1, 2, 0, 157, 2, 7, 0, 3, 2, 0, 157, 0, 2010, 3, 14, 1, 10, 3, 0, 160, 5, 3, 2, 0, 157, 0, 1, 0, 0, 1, 10, 3, 0, 160, 5, 3, 2, 0, 157, 0, 1, 0, 4]), (20, [0, 1], [30, 0, 1, 1, 158, -1, 0, 0]), (20, [0, 1], [30, 0, -1, 1, 158, 1, 0, 0]), (20, [0], [50, 2, 0, 164, 165, 4, 7, 1, 3, 2, 0, 164, 0, 0, 0, 3, 2, 0, 165, 0, 23]), (20, [0], [30, 0, 1, 1, 159]), (20, [0], [30, 0, -1, 1, 159])], [(20, [0], [50, 2, 1, 158, 157, 160, 2, 12, 0, 7, 4, 3, 2, 0, 158, 0, 1, 2, 0, 157, 2, 7, 0, 3, 2, 0, 157, 0, 2010, 3, 14, 1, 10, 3, 0, 160, 5, 3, 2, 0, 157, 0, 1, 0, 0, 1, 10, 3, 0, 160, 5, 3, 2, 0, 157, 0, 1, 0, 4]), (20, [1, 0], [30, 0, 1, 0, 0, -1, 1, 158]), (20, [0], [30, 0, 1, 1, 159]), (20, [0], [30, 0, -1, 1, 159])], [(0, 0, 2009, [])]))
abbrev b_Mo_oneTest_at_f1 : ByteArray := prog_15_method_223_code
def y_Mo_oneTest_at_f1 : MethodName := ⟨"DrawingHouseModel", "oneTest", "()Z"⟩
abbrev z_Mo_oneTest_at_f1 : List Cond := Cond.code y_Mo_oneTest_at_f1 b_Mo_oneTest_at_f1 6 (some .boolean) :: lw_g
def e_Mo_oneTest_at_f1 : en_T := ([(2, 0, 0, [150])], some (0, 0, 1, []), false, 45, 0, 0, [], [], (0, [(13, 8), (13, 9), (13, 158), (13, 159)], [(20, [0], [50, 2, 1, 158, 157, 160, 2, 12, 0, 7, 4, 3, 2, 0, 158, 0, 1, 2, 0, 157, 2, 7, 0, 3, 2, 0, 157, 0, 2010, 3, 14, 1, 10, 3, 0, 160, 5, 3, 2, 0, 157, 0, 1, 0, 0, 1, 10, 3, 0, 160, 5, 3, 2, 0, 157, 0, 1, 0, 4]), (20, [0, 1], [30, 0, 1, 1, 158, -1, 0, 0]), (20, [0, 1], [30, 0, -1, 1, 158, 1, 0, 0]), (20, [0], [50, 2, 0, 164, 165, 4, 7, 1, 3, 2, 0, 164, 0, 0, 0, 3, 2, 0, 165, 0, 23]), (20, [0], [30, 1, 1, 1, 159]), (20, [0], [30, -1, -1, 1, 159])], [(20, [0], [50, 2, 1, 158, 157, 160, 2, 12, 0, 7, 4, 3, 2, 0, 158, 0, 1, 2, 0, 157, 2, 7, 0, 3, 2, 0, 157, 0, 2010, 3, 14, 1, 10, 3, 0, 160, 5, 3, 2, 0, 157, 0, 1, 0, 0, 1, 10, 3, 0, 160, 5, 3, 2, 0, 157, 0, 1, 0, 4]), (20, [1, 0], [30, 0, 1, 0, 0, -1, 1, 158]), (20, [0], [30, 1, 1, 1, 159]), (20, [0], [30, -1, -1, 1, 159])], [(0, 0, 2009, [])]))
abbrev b_Mo_oneTest_at_f10 : ByteArray := prog_15_method_223_code
def y_Mo_oneTest_at_f10 : MethodName := ⟨"DrawingHouseModel", "oneTest", "()Z"⟩
abbrev z_Mo_oneTest_at_f10 : List Cond := Cond.code y_Mo_oneTest_at_f10 b_Mo_oneTest_at_f10 6 (some .boolean) :: lw_g
def e_Mo_oneTest_at_f10 : en_T := ([(2, 0, 0, [150])], some (0, 0, 1, []), false, 18, 0, 0, [], [], (0, [(13, 8), (13, 9), (13, 158), (13, 159)], [(20, [0], [50, 2, 1, 158, 157, 160, 2, 12, 0, 7, 4, 3, 2, 0, 158, 0, 1, 2, 0, 157, 2, 7, 0, 3, 2, 0, 157, 0, 2010, 3, 14, 1, 10, 3, 0, 160, 5, 3, 2, 0, 157, 0, 1, 0, 0, 1, 10, 3, 0, 160, 5, 3, 2, 0, 157, 0, 1, 0, 4]), (20, [0, 1], [30, 0, 1, 1, 158, -1, 0, 0]), (20, [0, 1], [30, 0, -1, 1, 158, 1, 0, 0]), (20, [0], [50, 2, 0, 164, 165, 4, 7, 1, 3, 2, 0, 164, 0, 0, 0, 3, 2, 0, 165, 0, 23]), (20, [0], [30, 10, 1, 1, 159]), (20, [0], [30, -10, -1, 1, 159])], [(20, [0], [50, 2, 1, 158, 157, 160, 2, 12, 0, 7, 4, 3, 2, 0, 158, 0, 1, 2, 0, 157, 2, 7, 0, 3, 2, 0, 157, 0, 2010, 3, 14, 1, 10, 3, 0, 160, 5, 3, 2, 0, 157, 0, 1, 0, 0, 1, 10, 3, 0, 160, 5, 3, 2, 0, 157, 0, 1, 0, 4]), (20, [1, 0], [30, 0, 1, 0, 0, -1, 1, 158]), (20, [0], [30, 10, 1, 1, 159]), (20, [0], [30, -10, -1, 1, 159])], [(0, 0, 2009, [])]))
abbrev b_Mo_oneTest_at_f11 : ByteArray := prog_15_method_223_code
def y_Mo_oneTest_at_f11 : MethodName := ⟨"DrawingHouseModel", "oneTest", "()Z"⟩
abbrev z_Mo_oneTest_at_f11 : List Cond := Cond.code y_Mo_oneTest_at_f11 b_Mo_oneTest_at_f11 6 (some .boolean) :: lw_g
def e_Mo_oneTest_at_f11 : en_T := ([(2, 0, 0, [150])], some (0, 0, 1, []), false, 15, 0, 0, [], [], (0, [(13, 8), (13, 9), (13, 158), (13, 159)], [(20, [0], [50, 2, 1, 158, 157, 160, 2, 12, 0, 7, 4, 3, 2, 0, 158, 0, 1, 2, 0, 157, 2, 7, 0, 3, 2, 0, 157, 0, 2010, 3, 14, 1, 10, 3, 0, 160, 5, 3, 2, 0, 157, 0, 1, 0, 0, 1, 10, 3, 0, 160, 5, 3, 2, 0, 157, 0, 1, 0, 4]), (20, [0, 1], [30, 0, 1, 1, 158, -1, 0, 0]), (20, [0, 1], [30, 0, -1, 1, 158, 1, 0, 0]), (20, [0], [50, 2, 0, 164, 165, 4, 7, 1, 3, 2, 0, 164, 0, 0, 0, 3, 2, 0, 165, 0, 23]), (20, [0], [30, 11, 1, 1, 159]), (20, [0], [30, -11, -1, 1, 159])], [(20, [0], [50, 2, 1, 158, 157, 160, 2, 12, 0, 7, 4, 3, 2, 0, 158, 0, 1, 2, 0, 157, 2, 7, 0, 3, 2, 0, 157, 0, 2010, 3, 14, 1, 10, 3, 0, 160, 5, 3, 2, 0, 157, 0, 1, 0, 0, 1, 10, 3, 0, 160, 5, 3, 2, 0, 157, 0, 1, 0, 4]), (20, [1, 0], [30, 0, 1, 0, 0, -1, 1, 158]), (20, [0], [30, 11, 1, 1, 159]), (20, [0], [30, -11, -1, 1, 159])], [(0, 0, 2009, [])]))
abbrev b_Mo_oneTest_at_f12 : ByteArray := prog_15_method_223_code
def y_Mo_oneTest_at_f12 : MethodName := ⟨"DrawingHouseModel", "oneTest", "()Z"⟩
abbrev z_Mo_oneTest_at_f12 : List Cond := Cond.code y_Mo_oneTest_at_f12 b_Mo_oneTest_at_f12 6 (some .boolean) :: lw_g
def e_Mo_oneTest_at_f12 : en_T := ([(2, 0, 0, [150])], some (0, 0, 1, []), false, 12, 0, 0, [], [], (0, [(13, 8), (13, 9), (13, 158), (13, 159)], [(20, [0], [50, 2, 1, 158, 157, 160, 2, 12, 0, 7, 4, 3, 2, 0, 158, 0, 1, 2, 0, 157, 2, 7, 0, 3, 2, 0, 157, 0, 2010, 3, 14, 1, 10, 3, 0, 160, 5, 3, 2, 0, 157, 0, 1, 0, 0, 1, 10, 3, 0, 160, 5, 3, 2, 0, 157, 0, 1, 0, 4]), (20, [0, 1], [30, 0, 1, 1, 158, -1, 0, 0]), (20, [0, 1], [30, 0, -1, 1, 158, 1, 0, 0]), (20, [0], [50, 2, 0, 164, 165, 4, 7, 1, 3, 2, 0, 164, 0, 0, 0, 3, 2, 0, 165, 0, 23]), (20, [0], [30, 12, 1, 1, 159]), (20, [0], [30, -12, -1, 1, 159])], [(20, [0], [50, 2, 1, 158, 157, 160, 2, 12, 0, 7, 4, 3, 2, 0, 158, 0, 1, 2, 0, 157, 2, 7, 0, 3, 2, 0, 157, 0, 2010, 3, 14, 1, 10, 3, 0, 160, 5, 3, 2, 0, 157, 0, 1, 0, 0, 1, 10, 3, 0, 160, 5, 3, 2, 0, 157, 0, 1, 0, 4]), (20, [1, 0], [30, 0, 1, 0, 0, -1, 1, 158]), (20, [0], [30, 12, 1, 1, 159]), (20, [0], [30, -12, -1, 1, 159])], [(0, 0, 2009, [])]))
abbrev b_Mo_oneTest_at_f13 : ByteArray := prog_15_method_223_code
def y_Mo_oneTest_at_f13 : MethodName := ⟨"DrawingHouseModel", "oneTest", "()Z"⟩
abbrev z_Mo_oneTest_at_f13 : List Cond := Cond.code y_Mo_oneTest_at_f13 b_Mo_oneTest_at_f13 6 (some .boolean) :: lw_g
def e_Mo_oneTest_at_f13 : en_T := ([(2, 0, 0, [150])], some (0, 0, 0, []), false, 6, 0, 0, [], [], (0, [(13, 8), (13, 9), (13, 158), (13, 159)], [(20, [0], [50, 2, 1, 158, 157, 160, 2, 12, 0, 7, 4, 3, 2, 0, 158, 0, 1, 2, 0, 157, 2, 7, 0, 3, 2, 0, 157, 0, 2010, 3, 14, 1, 10, 3, 0, 160, 5, 3, 2, 0, 157, 0, 1, 0, 0, 1, 10, 3, 0, 160, 5, 3, 2, 0, 157, 0, 1, 0, 4]), (20, [0, 1], [30, 0, 1, 1, 158, -1, 0, 0]), (20, [0, 1], [30, 0, -1, 1, 158, 1, 0, 0]), (20, [0], [50, 2, 0, 164, 165, 4, 7, 1, 3, 2, 0, 164, 0, 0, 0, 3, 2, 0, 165, 0, 23]), (20, [0], [30, 13, 1, 1, 159]), (20, [0], [30, -13, -1, 1, 159]), (20, [0], [30, -1, -1, 1, 8])], [(20, [0], [50, 2, 1, 158, 157, 160, 2, 12, 0, 7, 4, 3, 2, 0, 158, 0, 1, 2, 0, 157, 2, 7, 0, 3, 2, 0, 157, 0, 2010, 3, 14, 1, 10, 3, 0, 160, 5, 3, 2, 0, 157, 0, 1, 0, 0, 1, 10, 3, 0, 160, 5, 3, 2, 0, 157, 0, 1, 0, 4]), (20, [1, 0], [30, 0, 1, 0, 0, -1, 1, 158]), (20, [0], [30, 13, 1, 1, 159]), (20, [0], [30, -13, -1, 1, 159]), (20, [0], [30, -1, -1, 1, 8])], [(0, 0, 2009, [])]))
abbrev b_Mo_oneTest_at_f2 : ByteArray := prog_15_method_223_code
def y_Mo_oneTest_at_f2 : MethodName := ⟨"DrawingHouseModel", "oneTest", "()Z"⟩
abbrev z_Mo_oneTest_at_f2 : List Cond := Cond.code y_Mo_oneTest_at_f2 b_Mo_oneTest_at_f2 6 (some .boolean) :: lw_g
def e_Mo_oneTest_at_f2 : en_T := ([(2, 0, 0, [150])], some (0, 0, 1, []), false, 42, 0, 0, [], [], (0, [(13, 8), (13, 9), (13, 158), (13, 159)], [(20, [0], [50, 2, 1, 158, 157, 160, 2, 12, 0, 7, 4, 3, 2, 0, 158, 0, 1, 2, 0, 157, 2, 7, 0, 3, 2, 0, 157, 0, 2010, 3, 14, 1, 10, 3, 0, 160, 5, 3, 2, 0, 157, 0, 1, 0, 0, 1, 10, 3, 0, 160, 5, 3, 2, 0, 157, 0, 1, 0, 4]), (20, [0, 1], [30, 0, 1, 1, 158, -1, 0, 0]), (20, [0, 1], [30, 0, -1, 1, 158, 1, 0, 0]), (20, [0], [50, 2, 0, 164, 165, 4, 7, 1, 3, 2, 0, 164, 0, 0, 0, 3, 2, 0, 165, 0, 23]), (20, [0], [30, 2, 1, 1, 159]), (20, [0], [30, -2, -1, 1, 159])], [(20, [0], [50, 2, 1, 158, 157, 160, 2, 12, 0, 7, 4, 3, 2, 0, 158, 0, 1, 2, 0, 157, 2, 7, 0, 3, 2, 0, 157, 0, 2010, 3, 14, 1, 10, 3, 0, 160, 5, 3, 2, 0, 157, 0, 1, 0, 0, 1, 10, 3, 0, 160, 5, 3, 2, 0, 157, 0, 1, 0, 4]), (20, [1, 0], [30, 0, 1, 0, 0, -1, 1, 158]), (20, [0], [30, 2, 1, 1, 159]), (20, [0], [30, -2, -1, 1, 159])], [(0, 0, 2009, [])]))
abbrev b_Mo_oneTest_at_f3 : ByteArray := prog_15_method_223_code
def y_Mo_oneTest_at_f3 : MethodName := ⟨"DrawingHouseModel", "oneTest", "()Z"⟩
abbrev z_Mo_oneTest_at_f3 : List Cond := Cond.code y_Mo_oneTest_at_f3 b_Mo_oneTest_at_f3 6 (some .boolean) :: lw_g
def e_Mo_oneTest_at_f3 : en_T := ([(2, 0, 0, [150])], some (0, 0, 1, []), false, 39, 0, 0, [], [], (0, [(13, 8), (13, 9), (13, 158), (13, 159)], [(20, [0], [50, 2, 1, 158, 157, 160, 2, 12, 0, 7, 4, 3, 2, 0, 158, 0, 1, 2, 0, 157, 2, 7, 0, 3, 2, 0, 157, 0, 2010, 3, 14, 1, 10, 3, 0, 160, 5, 3, 2, 0, 157, 0, 1, 0, 0, 1, 10, 3, 0, 160, 5, 3, 2, 0, 157, 0, 1, 0, 4]), (20, [0, 1], [30, 0, 1, 1, 158, -1, 0, 0]), (20, [0, 1], [30, 0, -1, 1, 158, 1, 0, 0]), (20, [0], [50, 2, 0, 164, 165, 4, 7, 1, 3, 2, 0, 164, 0, 0, 0, 3, 2, 0, 165, 0, 23]), (20, [0], [30, 3, 1, 1, 159]), (20, [0], [30, -3, -1, 1, 159])], [(20, [0], [50, 2, 1, 158, 157, 160, 2, 12, 0, 7, 4, 3, 2, 0, 158, 0, 1, 2, 0, 157, 2, 7, 0, 3, 2, 0, 157, 0, 2010, 3, 14, 1, 10, 3, 0, 160, 5, 3, 2, 0, 157, 0, 1, 0, 0, 1, 10, 3, 0, 160, 5, 3, 2, 0, 157, 0, 1, 0, 4]), (20, [1, 0], [30, 0, 1, 0, 0, -1, 1, 158]), (20, [0], [30, 3, 1, 1, 159]), (20, [0], [30, -3, -1, 1, 159])], [(0, 0, 2009, [])]))
abbrev b_Mo_oneTest_at_f4 : ByteArray := prog_15_method_223_code
def y_Mo_oneTest_at_f4 : MethodName := ⟨"DrawingHouseModel", "oneTest", "()Z"⟩
abbrev z_Mo_oneTest_at_f4 : List Cond := Cond.code y_Mo_oneTest_at_f4 b_Mo_oneTest_at_f4 6 (some .boolean) :: lw_g
def e_Mo_oneTest_at_f4 : en_T := ([(2, 0, 0, [150])], some (0, 0, 1, []), false, 36, 0, 0, [], [], (0, [(13, 8), (13, 9), (13, 158), (13, 159)], [(20, [0], [50, 2, 1, 158, 157, 160, 2, 12, 0, 7, 4, 3, 2, 0, 158, 0, 1, 2, 0, 157, 2, 7, 0, 3, 2, 0, 157, 0, 2010, 3, 14, 1, 10, 3, 0, 160, 5, 3, 2, 0, 157, 0, 1, 0, 0, 1, 10, 3, 0, 160, 5, 3, 2, 0, 157, 0, 1, 0, 4]), (20, [0, 1], [30, 0, 1, 1, 158, -1, 0, 0]), (20, [0, 1], [30, 0, -1, 1, 158, 1, 0, 0]), (20, [0], [50, 2, 0, 164, 165, 4, 7, 1, 3, 2, 0, 164, 0, 0, 0, 3, 2, 0, 165, 0, 23]), (20, [0], [30, 4, 1, 1, 159]), (20, [0], [30, -4, -1, 1, 159])], [(20, [0], [50, 2, 1, 158, 157, 160, 2, 12, 0, 7, 4, 3, 2, 0, 158, 0, 1, 2, 0, 157, 2, 7, 0, 3, 2, 0, 157, 0, 2010, 3, 14, 1, 10, 3, 0, 160, 5, 3, 2, 0, 157, 0, 1, 0, 0, 1, 10, 3, 0, 160, 5, 3, 2, 0, 157, 0, 1, 0, 4]), (20, [1, 0], [30, 0, 1, 0, 0, -1, 1, 158]), (20, [0], [30, 4, 1, 1, 159]), (20, [0], [30, -4, -1, 1, 159])], [(0, 0, 2009, [])]))
abbrev b_Mo_oneTest_at_f5 : ByteArray := prog_15_method_223_code
def y_Mo_oneTest_at_f5 : MethodName := ⟨"DrawingHouseModel", "oneTest", "()Z"⟩
abbrev z_Mo_oneTest_at_f5 : List Cond := Cond.code y_Mo_oneTest_at_f5 b_Mo_oneTest_at_f5 6 (some .boolean) :: lw_g
def e_Mo_oneTest_at_f5 : en_T := ([(2, 0, 0, [150])], some (0, 0, 1, []), false, 33, 0, 0, [], [], (0, [(13, 8), (13, 9), (13, 158), (13, 159)], [(20, [0], [50, 2, 1, 158, 157, 160, 2, 12, 0, 7, 4, 3, 2, 0, 158, 0, 1, 2, 0, 157, 2, 7, 0, 3, 2, 0, 157, 0, 2010, 3, 14, 1, 10, 3, 0, 160, 5, 3, 2, 0, 157, 0, 1, 0, 0, 1, 10, 3, 0, 160, 5, 3, 2, 0, 157, 0, 1, 0, 4]), (20, [0, 1], [30, 0, 1, 1, 158, -1, 0, 0]), (20, [0, 1], [30, 0, -1, 1, 158, 1, 0, 0]), (20, [0], [50, 2, 0, 164, 165, 4, 7, 1, 3, 2, 0, 164, 0, 0, 0, 3, 2, 0, 165, 0, 23]), (20, [0], [30, 5, 1, 1, 159]), (20, [0], [30, -5, -1, 1, 159])], [(20, [0], [50, 2, 1, 158, 157, 160, 2, 12, 0, 7, 4, 3, 2, 0, 158, 0, 1, 2, 0, 157, 2, 7, 0, 3, 2, 0, 157, 0, 2010, 3, 14, 1, 10, 3, 0, 160, 5, 3, 2, 0, 157, 0, 1, 0, 0, 1, 10, 3, 0, 160, 5, 3, 2, 0, 157, 0, 1, 0, 4]), (20, [1, 0], [30, 0, 1, 0, 0, -1, 1, 158]), (20, [0], [30, 5, 1, 1, 159]), (20, [0], [30, -5, -1, 1, 159])], [(0, 0, 2009, [])]))
abbrev b_Mo_oneTest_at_f6 : ByteArray := prog_15_method_223_code
def y_Mo_oneTest_at_f6 : MethodName := ⟨"DrawingHouseModel", "oneTest", "()Z"⟩
abbrev z_Mo_oneTest_at_f6 : List Cond := Cond.code y_Mo_oneTest_at_f6 b_Mo_oneTest_at_f6 6 (some .boolean) :: lw_g
def e_Mo_oneTest_at_f6 : en_T := ([(2, 0, 0, [150])], some (0, 0, 1, []), false, 30, 0, 0, [], [], (0, [(13, 8), (13, 9), (13, 158), (13, 159)], [(20, [0], [50, 2, 1, 158, 157, 160, 2, 12, 0, 7, 4, 3, 2, 0, 158, 0, 1, 2, 0, 157, 2, 7, 0, 3, 2, 0, 157, 0, 2010, 3, 14, 1, 10, 3, 0, 160, 5, 3, 2, 0, 157, 0, 1, 0, 0, 1, 10, 3, 0, 160, 5, 3, 2, 0, 157, 0, 1, 0, 4]), (20, [0, 1], [30, 0, 1, 1, 158, -1, 0, 0]), (20, [0, 1], [30, 0, -1, 1, 158, 1, 0, 0]), (20, [0], [50, 2, 0, 164, 165, 4, 7, 1, 3, 2, 0, 164, 0, 0, 0, 3, 2, 0, 165, 0, 23]), (20, [0], [30, 6, 1, 1, 159]), (20, [0], [30, -6, -1, 1, 159])], [(20, [0], [50, 2, 1, 158, 157, 160, 2, 12, 0, 7, 4, 3, 2, 0, 158, 0, 1, 2, 0, 157, 2, 7, 0, 3, 2, 0, 157, 0, 2010, 3, 14, 1, 10, 3, 0, 160, 5, 3, 2, 0, 157, 0, 1, 0, 0, 1, 10, 3, 0, 160, 5, 3, 2, 0, 157, 0, 1, 0, 4]), (20, [1, 0], [30, 0, 1, 0, 0, -1, 1, 158]), (20, [0], [30, 6, 1, 1, 159]), (20, [0], [30, -6, -1, 1, 159])], [(0, 0, 2009, [])]))
abbrev b_Mo_oneTest_at_f7 : ByteArray := prog_15_method_223_code
def y_Mo_oneTest_at_f7 : MethodName := ⟨"DrawingHouseModel", "oneTest", "()Z"⟩
abbrev z_Mo_oneTest_at_f7 : List Cond := Cond.code y_Mo_oneTest_at_f7 b_Mo_oneTest_at_f7 6 (some .boolean) :: lw_g
def e_Mo_oneTest_at_f7 : en_T := ([(2, 0, 0, [150])], some (0, 0, 1, []), false, 27, 0, 0, [], [], (0, [(13, 8), (13, 9), (13, 158), (13, 159)], [(20, [0], [50, 2, 1, 158, 157, 160, 2, 12, 0, 7, 4, 3, 2, 0, 158, 0, 1, 2, 0, 157, 2, 7, 0, 3, 2, 0, 157, 0, 2010, 3, 14, 1, 10, 3, 0, 160, 5, 3, 2, 0, 157, 0, 1, 0, 0, 1, 10, 3, 0, 160, 5, 3, 2, 0, 157, 0, 1, 0, 4]), (20, [0, 1], [30, 0, 1, 1, 158, -1, 0, 0]), (20, [0, 1], [30, 0, -1, 1, 158, 1, 0, 0]), (20, [0], [50, 2, 0, 164, 165, 4, 7, 1, 3, 2, 0, 164, 0, 0, 0, 3, 2, 0, 165, 0, 23]), (20, [0], [30, 7, 1, 1, 159]), (20, [0], [30, -7, -1, 1, 159])], [(20, [0], [50, 2, 1, 158, 157, 160, 2, 12, 0, 7, 4, 3, 2, 0, 158, 0, 1, 2, 0, 157, 2, 7, 0, 3, 2, 0, 157, 0, 2010, 3, 14, 1, 10, 3, 0, 160, 5, 3, 2, 0, 157, 0, 1, 0, 0, 1, 10, 3, 0, 160, 5, 3, 2, 0, 157, 0, 1, 0, 4]), (20, [1, 0], [30, 0, 1, 0, 0, -1, 1, 158]), (20, [0], [30, 7, 1, 1, 159]), (20, [0], [30, -7, -1, 1, 159])], [(0, 0, 2009, [])]))
abbrev b_Mo_oneTest_at_f8 : ByteArray := prog_15_method_223_code
def y_Mo_oneTest_at_f8 : MethodName := ⟨"DrawingHouseModel", "oneTest", "()Z"⟩
abbrev z_Mo_oneTest_at_f8 : List Cond := Cond.code y_Mo_oneTest_at_f8 b_Mo_oneTest_at_f8 6 (some .boolean) :: lw_g
def e_Mo_oneTest_at_f8 : en_T := ([(2, 0, 0, [150])], some (0, 0, 1, []), false, 24, 0, 0, [], [], (0, [(13, 8), (13, 9), (13, 158), (13, 159)], [(20, [0], [50, 2, 1, 158, 157, 160, 2, 12, 0, 7, 4, 3, 2, 0, 158, 0, 1, 2, 0, 157, 2, 7, 0, 3, 2, 0, 157, 0, 2010, 3, 14, 1, 10, 3, 0, 160, 5, 3, 2, 0, 157, 0, 1, 0, 0, 1, 10, 3, 0, 160, 5, 3, 2, 0, 157, 0, 1, 0, 4]), (20, [0, 1], [30, 0, 1, 1, 158, -1, 0, 0]), (20, [0, 1], [30, 0, -1, 1, 158, 1, 0, 0]), (20, [0], [50, 2, 0, 164, 165, 4, 7, 1, 3, 2, 0, 164, 0, 0, 0, 3, 2, 0, 165, 0, 23]), (20, [0], [30, 8, 1, 1, 159]), (20, [0], [30, -8, -1, 1, 159])], [(20, [0], [50, 2, 1, 158, 157, 160, 2, 12, 0, 7, 4, 3, 2, 0, 158, 0, 1, 2, 0, 157, 2, 7, 0, 3, 2, 0, 157, 0, 2010, 3, 14, 1, 10, 3, 0, 160, 5, 3, 2, 0, 157, 0, 1, 0, 0, 1, 10, 3, 0, 160, 5, 3, 2, 0, 157, 0, 1, 0, 4]), (20, [1, 0], [30, 0, 1, 0, 0, -1, 1, 158]), (20, [0], [30, 8, 1, 1, 159]), (20, [0], [30, -8, -1, 1, 159])], [(0, 0, 2009, [])]))
abbrev b_Mo_oneTest_at_f9 : ByteArray := prog_15_method_223_code
def y_Mo_oneTest_at_f9 : MethodName := ⟨"DrawingHouseModel", "oneTest", "()Z"⟩
abbrev z_Mo_oneTest_at_f9 : List Cond := Cond.code y_Mo_oneTest_at_f9 b_Mo_oneTest_at_f9 6 (some .boolean) :: lw_g
def e_Mo_oneTest_at_f9 : en_T := ([(2, 0, 0, [150])], some (0, 0, 1, []), false, 21, 0, 0, [], [], (0, [(13, 8), (13, 9), (13, 158), (13, 159)], [(20, [0], [50, 2, 1, 158, 157, 160, 2, 12, 0, 7, 4, 3, 2, 0, 158, 0, 1, 2, 0, 157, 2, 7, 0, 3, 2, 0, 157, 0, 2010, 3, 14, 1, 10, 3, 0, 160, 5, 3, 2, 0, 157, 0, 1, 0, 0, 1, 10, 3, 0, 160, 5, 3, 2, 0, 157, 0, 1, 0, 4]), (20, [0, 1], [30, 0, 1, 1, 158, -1, 0, 0]), (20, [0, 1], [30, 0, -1, 1, 158, 1, 0, 0]), (20, [0], [50, 2, 0, 164, 165, 4, 7, 1, 3, 2, 0, 164, 0, 0, 0, 3, 2, 0, 165, 0, 23]), (20, [0], [30, 9, 1, 1, 159]), (20, [0], [30, -9, -1, 1, 159])], [(20, [0], [50, 2, 1, 158, 157, 160, 2, 12, 0, 7, 4, 3, 2, 0, 158, 0, 1, 2, 0, 157, 2, 7, 0, 3, 2, 0, 157, 0, 2010, 3, 14, 1, 10, 3, 0, 160, 5, 3, 2, 0, 157, 0, 1, 0, 0, 1, 10, 3, 0, 160, 5, 3, 2, 0, 157, 0, 1, 0, 4]), (20, [1, 0], [30, 0, 1, 0, 0, -1, 1, 158]), (20, [0], [30, 9, 1, 1, 159]), (20, [0], [30, -9, -1, 1, 159])], [(0, 0, 2009, [])]))
abbrev b_Mo_test_at_f0 : ByteArray := prog_15_method_221_code
def y_Mo_test_at_f0 : MethodName := ⟨"DrawingHouseModel", "test", "()Z"⟩
abbrev z_Mo_test_at_f0 : List Cond := Cond.code y_Mo_test_at_f0 b_Mo_test_at_f0 3 (some .boolean) :: lw_g
def e_Mo_test_at_f0 : en_T := ([(2, 0, 0, [150])], some (0, 0, 1, []), false, 50, 0, 0, [], [], (0, [(13, 8), (13, 9), (13, 158), (13, 159)], [(20, [0], [50, 2, 1, 158, 157, 160, 2, 12, 0, 7, 4, 3, 2, 0, 158, 0, 1, 2, 0, 157, 2, 7, 0, 3, 2, 0, 157, 0, 2010, 3, 14, 1, 10, 3, 0, 160, 5, 3, 2, 0, 157, 0, 1, 0, 0, 1, 10, 3, 0, 160, 5, 3, 2, 0, 157, 0, 1, 0, 4]), (20, [0, 1], [30, 0, 1, 1, 158, -1, 0, 0]), (20, [0, 1], [30, 0, -1, 1, 158, 1, 0, 0]), (20, [0], [50, 2, 0, 164, 165, 4, 7, 1, 3, 2, 0, 164, 0, 0, 0, 3, 2, 0, 165, 0, 23]), (20, [0], [30, 0, 1, 1, 159]), (20, [0], [30, 0, -1, 1, 159])], [(20, [0], [50, 2, 1, 158, 157, 160, 2, 12, 0, 7, 4, 3, 2, 0, 158, 0, 1, 2, 0, 157, 2, 7, 0, 3, 2, 0, 157, 0, 2010, 3, 14, 1, 10, 3, 0, 160, 5, 3, 2, 0, 157, 0, 1, 0, 0, 1, 10, 3, 0, 160, 5, 3, 2, 0, 157, 0, 1, 0, 4]), (20, [1, 0], [30, 0, 1, 0, 0, -1, 1, 158]), (20, [0], [30, 0, 1, 1, 159]), (20, [0], [30, 0, -1, 1, 159])], [(0, 0, 2009, [])]))
abbrev b_Mo_test_at_f1 : ByteArray := prog_15_method_221_code
def y_Mo_test_at_f1 : MethodName := ⟨"DrawingHouseModel", "test", "()Z"⟩
abbrev z_Mo_test_at_f1 : List Cond := Cond.code y_Mo_test_at_f1 b_Mo_test_at_f1 3 (some .boolean) :: lw_g
def e_Mo_test_at_f1 : en_T := ([(2, 0, 0, [150])], some (0, 0, 1, []), false, 47, 0, 0, [], [], (0, [(13, 8), (13, 9), (13, 158), (13, 159)], [(20, [0], [50, 2, 1, 158, 157, 160, 2, 12, 0, 7, 4, 3, 2, 0, 158, 0, 1, 2, 0, 157, 2, 7, 0, 3, 2, 0, 157, 0, 2010, 3, 14, 1, 10, 3, 0, 160, 5, 3, 2, 0, 157, 0, 1, 0, 0, 1, 10, 3, 0, 160, 5, 3, 2, 0, 157, 0, 1, 0, 4]), (20, [0, 1], [30, 0, 1, 1, 158, -1, 0, 0]), (20, [0, 1], [30, 0, -1, 1, 158, 1, 0, 0]), (20, [0], [50, 2, 0, 164, 165, 4, 7, 1, 3, 2, 0, 164, 0, 0, 0, 3, 2, 0, 165, 0, 23]), (20, [0], [30, 1, 1, 1, 159]), (20, [0], [30, -1, -1, 1, 159])], [(20, [0], [50, 2, 1, 158, 157, 160, 2, 12, 0, 7, 4, 3, 2, 0, 158, 0, 1, 2, 0, 157, 2, 7, 0, 3, 2, 0, 157, 0, 2010, 3, 14, 1, 10, 3, 0, 160, 5, 3, 2, 0, 157, 0, 1, 0, 0, 1, 10, 3, 0, 160, 5, 3, 2, 0, 157, 0, 1, 0, 4]), (20, [1, 0], [30, 0, 1, 0, 0, -1, 1, 158]), (20, [0], [30, 1, 1, 1, 159]), (20, [0], [30, -1, -1, 1, 159])], [(0, 0, 2009, [])]))
abbrev b_Mo_test_at_f10 : ByteArray := prog_15_method_221_code
def y_Mo_test_at_f10 : MethodName := ⟨"DrawingHouseModel", "test", "()Z"⟩
abbrev z_Mo_test_at_f10 : List Cond := Cond.code y_Mo_test_at_f10 b_Mo_test_at_f10 3 (some .boolean) :: lw_g
def e_Mo_test_at_f10 : en_T := ([(2, 0, 0, [150])], some (0, 0, 1, []), false, 20, 0, 0, [], [], (0, [(13, 8), (13, 9), (13, 158), (13, 159)], [(20, [0], [50, 2, 1, 158, 157, 160, 2, 12, 0, 7, 4, 3, 2, 0, 158, 0, 1, 2, 0, 157, 2, 7, 0, 3, 2, 0, 157, 0, 2010, 3, 14, 1, 10, 3, 0, 160, 5, 3, 2, 0, 157, 0, 1, 0, 0, 1, 10, 3, 0, 160, 5, 3, 2, 0, 157, 0, 1, 0, 4]), (20, [0, 1], [30, 0, 1, 1, 158, -1, 0, 0]), (20, [0, 1], [30, 0, -1, 1, 158, 1, 0, 0]), (20, [0], [50, 2, 0, 164, 165, 4, 7, 1, 3, 2, 0, 164, 0, 0, 0, 3, 2, 0, 165, 0, 23]), (20, [0], [30, 10, 1, 1, 159]), (20, [0], [30, -10, -1, 1, 159])], [(20, [0], [50, 2, 1, 158, 157, 160, 2, 12, 0, 7, 4, 3, 2, 0, 158, 0, 1, 2, 0, 157, 2, 7, 0, 3, 2, 0, 157, 0, 2010, 3, 14, 1, 10, 3, 0, 160, 5, 3, 2, 0, 157, 0, 1, 0, 0, 1, 10, 3, 0, 160, 5, 3, 2, 0, 157, 0, 1, 0, 4]), (20, [1, 0], [30, 0, 1, 0, 0, -1, 1, 158]), (20, [0], [30, 10, 1, 1, 159]), (20, [0], [30, -10, -1, 1, 159])], [(0, 0, 2009, [])]))
abbrev b_Mo_test_at_f11 : ByteArray := prog_15_method_221_code
def y_Mo_test_at_f11 : MethodName := ⟨"DrawingHouseModel", "test", "()Z"⟩
abbrev z_Mo_test_at_f11 : List Cond := Cond.code y_Mo_test_at_f11 b_Mo_test_at_f11 3 (some .boolean) :: lw_g
def e_Mo_test_at_f11 : en_T := ([(2, 0, 0, [150])], some (0, 0, 1, []), false, 17, 0, 0, [], [], (0, [(13, 8), (13, 9), (13, 158), (13, 159)], [(20, [0], [50, 2, 1, 158, 157, 160, 2, 12, 0, 7, 4, 3, 2, 0, 158, 0, 1, 2, 0, 157, 2, 7, 0, 3, 2, 0, 157, 0, 2010, 3, 14, 1, 10, 3, 0, 160, 5, 3, 2, 0, 157, 0, 1, 0, 0, 1, 10, 3, 0, 160, 5, 3, 2, 0, 157, 0, 1, 0, 4]), (20, [0, 1], [30, 0, 1, 1, 158, -1, 0, 0]), (20, [0, 1], [30, 0, -1, 1, 158, 1, 0, 0]), (20, [0], [50, 2, 0, 164, 165, 4, 7, 1, 3, 2, 0, 164, 0, 0, 0, 3, 2, 0, 165, 0, 23]), (20, [0], [30, 11, 1, 1, 159]), (20, [0], [30, -11, -1, 1, 159])], [(20, [0], [50, 2, 1, 158, 157, 160, 2, 12, 0, 7, 4, 3, 2, 0, 158, 0, 1, 2, 0, 157, 2, 7, 0, 3, 2, 0, 157, 0, 2010, 3, 14, 1, 10, 3, 0, 160, 5, 3, 2, 0, 157, 0, 1, 0, 0, 1, 10, 3, 0, 160, 5, 3, 2, 0, 157, 0, 1, 0, 4]), (20, [1, 0], [30, 0, 1, 0, 0, -1, 1, 158]), (20, [0], [30, 11, 1, 1, 159]), (20, [0], [30, -11, -1, 1, 159])], [(0, 0, 2009, [])]))
abbrev b_Mo_test_at_f12 : ByteArray := prog_15_method_221_code
def y_Mo_test_at_f12 : MethodName := ⟨"DrawingHouseModel", "test", "()Z"⟩
abbrev z_Mo_test_at_f12 : List Cond := Cond.code y_Mo_test_at_f12 b_Mo_test_at_f12 3 (some .boolean) :: lw_g
def e_Mo_test_at_f12 : en_T := ([(2, 0, 0, [150])], some (0, 0, 1, []), false, 14, 0, 0, [], [], (0, [(13, 8), (13, 9), (13, 158), (13, 159)], [(20, [0], [50, 2, 1, 158, 157, 160, 2, 12, 0, 7, 4, 3, 2, 0, 158, 0, 1, 2, 0, 157, 2, 7, 0, 3, 2, 0, 157, 0, 2010, 3, 14, 1, 10, 3, 0, 160, 5, 3, 2, 0, 157, 0, 1, 0, 0, 1, 10, 3, 0, 160, 5, 3, 2, 0, 157, 0, 1, 0, 4]), (20, [0, 1], [30, 0, 1, 1, 158, -1, 0, 0]), (20, [0, 1], [30, 0, -1, 1, 158, 1, 0, 0]), (20, [0], [50, 2, 0, 164, 165, 4, 7, 1, 3, 2, 0, 164, 0, 0, 0, 3, 2, 0, 165, 0, 23]), (20, [0], [30, 12, 1, 1, 159]), (20, [0], [30, -12, -1, 1, 159])], [(20, [0], [50, 2, 1, 158, 157, 160, 2, 12, 0, 7, 4, 3, 2, 0, 158, 0, 1, 2, 0, 157, 2, 7, 0, 3, 2, 0, 157, 0, 2010, 3, 14, 1, 10, 3, 0, 160, 5, 3, 2, 0, 157, 0, 1, 0, 0, 1, 10, 3, 0, 160, 5, 3, 2, 0, 157, 0, 1, 0, 4]), (20, [1, 0], [30, 0, 1, 0, 0, -1, 1, 158]), (20, [0], [30, 12, 1, 1, 159]), (20, [0], [30, -12, -1, 1, 159])], [(0, 0, 2009, [])]))
abbrev b_Mo_test_at_f13 : ByteArray := prog_15_method_221_code
def y_Mo_test_at_f13 : MethodName := ⟨"DrawingHouseModel", "test", "()Z"⟩
abbrev z_Mo_test_at_f13 : List Cond := Cond.code y_Mo_test_at_f13 b_Mo_test_at_f13 3 (some .boolean) :: lw_g
def e_Mo_test_at_f13 : en_T := ([(2, 0, 0, [150])], some (0, 0, 0, []), false, 9, 0, 0, [], [], (0, [(13, 8), (13, 9), (13, 158), (13, 159)], [(20, [0], [50, 2, 1, 158, 157, 160, 2, 12, 0, 7, 4, 3, 2, 0, 158, 0, 1, 2, 0, 157, 2, 7, 0, 3, 2, 0, 157, 0, 2010, 3, 14, 1, 10, 3, 0, 160, 5, 3, 2, 0, 157, 0, 1, 0, 0, 1, 10, 3, 0, 160, 5, 3, 2, 0, 157, 0, 1, 0, 4]), (20, [0, 1], [30, 0, 1, 1, 158, -1, 0, 0]), (20, [0, 1], [30, 0, -1, 1, 158, 1, 0, 0]), (20, [0], [50, 2, 0, 164, 165, 4, 7, 1, 3, 2, 0, 164, 0, 0, 0, 3, 2, 0, 165, 0, 23]), (20, [0], [30, 13, 1, 1, 159]), (20, [0], [30, -13, -1, 1, 159]), (20, [0], [30, -1, -1, 1, 8])], [(20, [0], [50, 2, 1, 158, 157, 160, 2, 12, 0, 7, 4, 3, 2, 0, 158, 0, 1, 2, 0, 157, 2, 7, 0, 3, 2, 0, 157, 0, 2010, 3, 14, 1, 10, 3, 0, 160, 5, 3, 2, 0, 157, 0, 1, 0, 0, 1, 10, 3, 0, 160, 5, 3, 2, 0, 157, 0, 1, 0, 4]), (20, [1, 0], [30, 0, 1, 0, 0, -1, 1, 158]), (20, [0], [30, 13, 1, 1, 159]), (20, [0], [30, -13, -1, 1, 159]), (20, [0], [30, -1, -1, 1, 8])], [(0, 0, 2009, [])]))
abbrev b_Mo_test_at_f2 : ByteArray := prog_15_method_221_code
def y_Mo_test_at_f2 : MethodName := ⟨"DrawingHouseModel", "test", "()Z"⟩
abbrev z_Mo_test_at_f2 : List Cond := Cond.code y_Mo_test_at_f2 b_Mo_test_at_f2 3 (some .boolean) :: lw_g
def e_Mo_test_at_f2 : en_T := ([(2, 0, 0, [150])], some (0, 0, 1, []), false, 44, 0, 0, [], [], (0, [(13, 8), (13, 9), (13, 158), (13, 159)], [(20, [0], [50, 2, 1, 158, 157, 160, 2, 12, 0, 7, 4, 3, 2, 0, 158, 0, 1, 2, 0, 157, 2, 7, 0, 3, 2, 0, 157, 0, 2010, 3, 14, 1, 10, 3, 0, 160, 5, 3, 2, 0, 157, 0, 1, 0, 0, 1, 10, 3, 0, 160, 5, 3, 2, 0, 157, 0, 1, 0, 4]), (20, [0, 1], [30, 0, 1, 1, 158, -1, 0, 0]), (20, [0, 1], [30, 0, -1, 1, 158, 1, 0, 0]), (20, [0], [50, 2, 0, 164, 165, 4, 7, 1, 3, 2, 0, 164, 0, 0, 0, 3, 2, 0, 165, 0, 23]), (20, [0], [30, 2, 1, 1, 159]), (20, [0], [30, -2, -1, 1, 159])], [(20, [0], [50, 2, 1, 158, 157, 160, 2, 12, 0, 7, 4, 3, 2, 0, 158, 0, 1, 2, 0, 157, 2, 7, 0, 3, 2, 0, 157, 0, 2010, 3, 14, 1, 10, 3, 0, 160, 5, 3, 2, 0, 157, 0, 1, 0, 0, 1, 10, 3, 0, 160, 5, 3, 2, 0, 157, 0, 1, 0, 4]), (20, [1, 0], [30, 0, 1, 0, 0, -1, 1, 158]), (20, [0], [30, 2, 1, 1, 159]), (20, [0], [30, -2, -1, 1, 159])], [(0, 0, 2009, [])]))
abbrev b_Mo_test_at_f3 : ByteArray := prog_15_method_221_code
def y_Mo_test_at_f3 : MethodName := ⟨"DrawingHouseModel", "test", "()Z"⟩
abbrev z_Mo_test_at_f3 : List Cond := Cond.code y_Mo_test_at_f3 b_Mo_test_at_f3 3 (some .boolean) :: lw_g
def e_Mo_test_at_f3 : en_T := ([(2, 0, 0, [150])], some (0, 0, 1, []), false, 41, 0, 0, [], [], (0, [(13, 8), (13, 9), (13, 158), (13, 159)], [(20, [0], [50, 2, 1, 158, 157, 160, 2, 12, 0, 7, 4, 3, 2, 0, 158, 0, 1, 2, 0, 157, 2, 7, 0, 3, 2, 0, 157, 0, 2010, 3, 14, 1, 10, 3, 0, 160, 5, 3, 2, 0, 157, 0, 1, 0, 0, 1, 10, 3, 0, 160, 5, 3, 2, 0, 157, 0, 1, 0, 4]), (20, [0, 1], [30, 0, 1, 1, 158, -1, 0, 0]), (20, [0, 1], [30, 0, -1, 1, 158, 1, 0, 0]), (20, [0], [50, 2, 0, 164, 165, 4, 7, 1, 3, 2, 0, 164, 0, 0, 0, 3, 2, 0, 165, 0, 23]), (20, [0], [30, 3, 1, 1, 159]), (20, [0], [30, -3, -1, 1, 159])], [(20, [0], [50, 2, 1, 158, 157, 160, 2, 12, 0, 7, 4, 3, 2, 0, 158, 0, 1, 2, 0, 157, 2, 7, 0, 3, 2, 0, 157, 0, 2010, 3, 14, 1, 10, 3, 0, 160, 5, 3, 2, 0, 157, 0, 1, 0, 0, 1, 10, 3, 0, 160, 5, 3, 2, 0, 157, 0, 1, 0, 4]), (20, [1, 0], [30, 0, 1, 0, 0, -1, 1, 158]), (20, [0], [30, 3, 1, 1, 159]), (20, [0], [30, -3, -1, 1, 159])], [(0, 0, 2009, [])]))
abbrev b_Mo_test_at_f4 : ByteArray := prog_15_method_221_code
def y_Mo_test_at_f4 : MethodName := ⟨"DrawingHouseModel", "test", "()Z"⟩
abbrev z_Mo_test_at_f4 : List Cond := Cond.code y_Mo_test_at_f4 b_Mo_test_at_f4 3 (some .boolean) :: lw_g
def e_Mo_test_at_f4 : en_T := ([(2, 0, 0, [150])], some (0, 0, 1, []), false, 38, 0, 0, [], [], (0, [(13, 8), (13, 9), (13, 158), (13, 159)], [(20, [0], [50, 2, 1, 158, 157, 160, 2, 12, 0, 7, 4, 3, 2, 0, 158, 0, 1, 2, 0, 157, 2, 7, 0, 3, 2, 0, 157, 0, 2010, 3, 14, 1, 10, 3, 0, 160, 5, 3, 2, 0, 157, 0, 1, 0, 0, 1, 10, 3, 0, 160, 5, 3, 2, 0, 157, 0, 1, 0, 4]), (20, [0, 1], [30, 0, 1, 1, 158, -1, 0, 0]), (20, [0, 1], [30, 0, -1, 1, 158, 1, 0, 0]), (20, [0], [50, 2, 0, 164, 165, 4, 7, 1, 3, 2, 0, 164, 0, 0, 0, 3, 2, 0, 165, 0, 23]), (20, [0], [30, 4, 1, 1, 159]), (20, [0], [30, -4, -1, 1, 159])], [(20, [0], [50, 2, 1, 158, 157, 160, 2, 12, 0, 7, 4, 3, 2, 0, 158, 0, 1, 2, 0, 157, 2, 7, 0, 3, 2, 0, 157, 0, 2010, 3, 14, 1, 10, 3, 0, 160, 5, 3, 2, 0, 157, 0, 1, 0, 0, 1, 10, 3, 0, 160, 5, 3, 2, 0, 157, 0, 1, 0, 4]), (20, [1, 0], [30, 0, 1, 0, 0, -1, 1, 158]), (20, [0], [30, 4, 1, 1, 159]), (20, [0], [30, -4, -1, 1, 159])], [(0, 0, 2009, [])]))
abbrev b_Mo_test_at_f5 : ByteArray := prog_15_method_221_code
def y_Mo_test_at_f5 : MethodName := ⟨"DrawingHouseModel", "test", "()Z"⟩
abbrev z_Mo_test_at_f5 : List Cond := Cond.code y_Mo_test_at_f5 b_Mo_test_at_f5 3 (some .boolean) :: lw_g
def e_Mo_test_at_f5 : en_T := ([(2, 0, 0, [150])], some (0, 0, 1, []), false, 35, 0, 0, [], [], (0, [(13, 8), (13, 9), (13, 158), (13, 159)], [(20, [0], [50, 2, 1, 158, 157, 160, 2, 12, 0, 7, 4, 3, 2, 0, 158, 0, 1, 2, 0, 157, 2, 7, 0, 3, 2, 0, 157, 0, 2010, 3, 14, 1, 10, 3, 0, 160, 5, 3, 2, 0, 157, 0, 1, 0, 0, 1, 10, 3, 0, 160, 5, 3, 2, 0, 157, 0, 1, 0, 4]), (20, [0, 1], [30, 0, 1, 1, 158, -1, 0, 0]), (20, [0, 1], [30, 0, -1, 1, 158, 1, 0, 0]), (20, [0], [50, 2, 0, 164, 165, 4, 7, 1, 3, 2, 0, 164, 0, 0, 0, 3, 2, 0, 165, 0, 23]), (20, [0], [30, 5, 1, 1, 159]), (20, [0], [30, -5, -1, 1, 159])], [(20, [0], [50, 2, 1, 158, 157, 160, 2, 12, 0, 7, 4, 3, 2, 0, 158, 0, 1, 2, 0, 157, 2, 7, 0, 3, 2, 0, 157, 0, 2010, 3, 14, 1, 10, 3, 0, 160, 5, 3, 2, 0, 157, 0, 1, 0, 0, 1, 10, 3, 0, 160, 5, 3, 2, 0, 157, 0, 1, 0, 4]), (20, [1, 0], [30, 0, 1, 0, 0, -1, 1, 158]), (20, [0], [30, 5, 1, 1, 159]), (20, [0], [30, -5, -1, 1, 159])], [(0, 0, 2009, [])]))
abbrev b_Mo_test_at_f6 : ByteArray := prog_15_method_221_code
def y_Mo_test_at_f6 : MethodName := ⟨"DrawingHouseModel", "test", "()Z"⟩
abbrev z_Mo_test_at_f6 : List Cond := Cond.code y_Mo_test_at_f6 b_Mo_test_at_f6 3 (some .boolean) :: lw_g
def e_Mo_test_at_f6 : en_T := ([(2, 0, 0, [150])], some (0, 0, 1, []), false, 32, 0, 0, [], [], (0, [(13, 8), (13, 9), (13, 158), (13, 159)], [(20, [0], [50, 2, 1, 158, 157, 160, 2, 12, 0, 7, 4, 3, 2, 0, 158, 0, 1, 2, 0, 157, 2, 7, 0, 3, 2, 0, 157, 0, 2010, 3, 14, 1, 10, 3, 0, 160, 5, 3, 2, 0, 157, 0, 1, 0, 0, 1, 10, 3, 0, 160, 5, 3, 2, 0, 157, 0, 1, 0, 4]), (20, [0, 1], [30, 0, 1, 1, 158, -1, 0, 0]), (20, [0, 1], [30, 0, -1, 1, 158, 1, 0, 0]), (20, [0], [50, 2, 0, 164, 165, 4, 7, 1, 3, 2, 0, 164, 0, 0, 0, 3, 2, 0, 165, 0, 23]), (20, [0], [30, 6, 1, 1, 159]), (20, [0], [30, -6, -1, 1, 159])], [(20, [0], [50, 2, 1, 158, 157, 160, 2, 12, 0, 7, 4, 3, 2, 0, 158, 0, 1, 2, 0, 157, 2, 7, 0, 3, 2, 0, 157, 0, 2010, 3, 14, 1, 10, 3, 0, 160, 5, 3, 2, 0, 157, 0, 1, 0, 0, 1, 10, 3, 0, 160, 5, 3, 2, 0, 157, 0, 1, 0, 4]), (20, [1, 0], [30, 0, 1, 0, 0, -1, 1, 158]), (20, [0], [30, 6, 1, 1, 159]), (20, [0], [30, -6, -1, 1, 159])], [(0, 0, 2009, [])]))
abbrev b_Mo_test_at_f7 : ByteArray := prog_15_method_221_code
def y_Mo_test_at_f7 : MethodName := ⟨"DrawingHouseModel", "test", "()Z"⟩
abbrev z_Mo_test_at_f7 : List Cond := Cond.code y_Mo_test_at_f7 b_Mo_test_at_f7 3 (some .boolean) :: lw_g
def e_Mo_test_at_f7 : en_T := ([(2, 0, 0, [150])], some (0, 0, 1, []), false, 29, 0, 0, [], [], (0, [(13, 8), (13, 9), (13, 158), (13, 159)], [(20, [0], [50, 2, 1, 158, 157, 160, 2, 12, 0, 7, 4, 3, 2, 0, 158, 0, 1, 2, 0, 157, 2, 7, 0, 3, 2, 0, 157, 0, 2010, 3, 14, 1, 10, 3, 0, 160, 5, 3, 2, 0, 157, 0, 1, 0, 0, 1, 10, 3, 0, 160, 5, 3, 2, 0, 157, 0, 1, 0, 4]), (20, [0, 1], [30, 0, 1, 1, 158, -1, 0, 0]), (20, [0, 1], [30, 0, -1, 1, 158, 1, 0, 0]), (20, [0], [50, 2, 0, 164, 165, 4, 7, 1, 3, 2, 0, 164, 0, 0, 0, 3, 2, 0, 165, 0, 23]), (20, [0], [30, 7, 1, 1, 159]), (20, [0], [30, -7, -1, 1, 159])], [(20, [0], [50, 2, 1, 158, 157, 160, 2, 12, 0, 7, 4, 3, 2, 0, 158, 0, 1, 2, 0, 157, 2, 7, 0, 3, 2, 0, 157, 0, 2010, 3, 14, 1, 10, 3, 0, 160, 5, 3, 2, 0, 157, 0, 1, 0, 0, 1, 10, 3, 0, 160, 5, 3, 2, 0, 157, 0, 1, 0, 4]), (20, [1, 0], [30, 0, 1, 0, 0, -1, 1, 158]), (20, [0], [30, 7, 1, 1, 159]), (20, [0], [30, -7, -1, 1, 159])], [(0, 0, 2009, [])]))
abbrev b_Mo_test_at_f8 : ByteArray := prog_15_method_221_code
def y_Mo_test_at_f8 : MethodName := ⟨"DrawingHouseModel", "test", "()Z"⟩
abbrev z_Mo_test_at_f8 : List Cond := Cond.code y_Mo_test_at_f8 b_Mo_test_at_f8 3 (some .boolean) :: lw_g
def e_Mo_test_at_f8 : en_T := ([(2, 0, 0, [150])], some (0, 0, 1, []), false, 26, 0, 0, [], [], (0, [(13, 8), (13, 9), (13, 158), (13, 159)], [(20, [0], [50, 2, 1, 158, 157, 160, 2, 12, 0, 7, 4, 3, 2, 0, 158, 0, 1, 2, 0, 157, 2, 7, 0, 3, 2, 0, 157, 0, 2010, 3, 14, 1, 10, 3, 0, 160, 5, 3, 2, 0, 157, 0, 1, 0, 0, 1, 10, 3, 0, 160, 5, 3, 2, 0, 157, 0, 1, 0, 4]), (20, [0, 1], [30, 0, 1, 1, 158, -1, 0, 0]), (20, [0, 1], [30, 0, -1, 1, 158, 1, 0, 0]), (20, [0], [50, 2, 0, 164, 165, 4, 7, 1, 3, 2, 0, 164, 0, 0, 0, 3, 2, 0, 165, 0, 23]), (20, [0], [30, 8, 1, 1, 159]), (20, [0], [30, -8, -1, 1, 159])], [(20, [0], [50, 2, 1, 158, 157, 160, 2, 12, 0, 7, 4, 3, 2, 0, 158, 0, 1, 2, 0, 157, 2, 7, 0, 3, 2, 0, 157, 0, 2010, 3, 14, 1, 10, 3, 0, 160, 5, 3, 2, 0, 157, 0, 1, 0, 0, 1, 10, 3, 0, 160, 5, 3, 2, 0, 157, 0, 1, 0, 4]), (20, [1, 0], [30, 0, 1, 0, 0, -1, 1, 158]), (20, [0], [30, 8, 1, 1, 159]), (20, [0], [30, -8, -1, 1, 159])], [(0, 0, 2009, [])]))
abbrev b_Mo_test_at_f9 : ByteArray := prog_15_method_221_code
def y_Mo_test_at_f9 : MethodName := ⟨"DrawingHouseModel", "test", "()Z"⟩
abbrev z_Mo_test_at_f9 : List Cond := Cond.code y_Mo_test_at_f9 b_Mo_test_at_f9 3 (some .boolean) :: lw_g
def e_Mo_test_at_f9 : en_T := ([(2, 0, 0, [150])], some (0, 0, 1, []), false, 23, 0, 0, [], [], (0, [(13, 8), (13, 9), (13, 158), (13, 159)], [(20, [0], [50, 2, 1, 158, 157, 160, 2, 12, 0, 7, 4, 3, 2, 0, 158, 0, 1, 2, 0, 157, 2, 7, 0, 3, 2, 0, 157, 0, 2010, 3, 14, 1, 10, 3, 0, 160, 5, 3, 2, 0, 157, 0, 1, 0, 0, 1, 10, 3, 0, 160, 5, 3, 2, 0, 157, 0, 1, 0, 4]), (20, [0, 1], [30, 0, 1, 1, 158, -1, 0, 0]), (20, [0, 1], [30, 0, -1, 1, 158, 1, 0, 0]), (20, [0], [50, 2, 0, 164, 165, 4, 7, 1, 3, 2, 0, 164, 0, 0, 0, 3, 2, 0, 165, 0, 23]), (20, [0], [30, 9, 1, 1, 159]), (20, [0], [30, -9, -1, 1, 159])], [(20, [0], [50, 2, 1, 158, 157, 160, 2, 12, 0, 7, 4, 3, 2, 0, 158, 0, 1, 2, 0, 157, 2, 7, 0, 3, 2, 0, 157, 0, 2010, 3, 14, 1, 10, 3, 0, 160, 5, 3, 2, 0, 157, 0, 1, 0, 0, 1, 10, 3, 0, 160, 5, 3, 2, 0, 157, 0, 1, 0, 4]), (20, [1, 0], [30, 0, 1, 0, 0, -1, 1, 158]), (20, [0], [30, 9, 1, 1, 159]), (20, [0], [30, -9, -1, 1, 159])], [(0, 0, 2009, [])]))
abbrev b_Mo_text : ByteArray := prog_15_method_240_code
def y_Mo_text : MethodName := ⟨"DrawingHouseModel", "text", "(II)I"⟩
abbrev z_Mo_text : List Cond := Cond.code y_Mo_text b_Mo_text 4 (some .int) :: lw_g
def e_Mo_text : en_T := ([(2, 0, 0, [150]), (0, -2147483648, 2147483647, []), (0, -2147483648, 2147483647, [])], some (0, -1, 100000000, []), false, 17, 0, 0, [], [], (355713298137035352341210065946689252925245392892847812729213698072309134253883392, [(13, 5), (13, 139), (13, 169), (13, 170)], [], [], []))
abbrev b_Ho_turn : ByteArray := prog_1_method_16_code
def y_Ho_turn : MethodName := ⟨"DrawingHouse", "turn", "(IIII)I"⟩
abbrev z_Ho_turn : List Cond := Cond.code y_Ho_turn b_Ho_turn 6 (some .int) :: lw_g
def e_Ho_turn : en_T := ([(2, 0, 0, [12]), (0, -2147483648, 2147483647, []), (0, -2147483648, 2147483647, []), (0, -2147483648, 2147483647, []), (0, -2147483648, 2147483647, [])], some (0, -1, 71, []), false, 12, 0, 0, [], [], (712230049778193471658784469088133964216926208, [(1, 0), (1, 5), (1, 6), (1, 7), (1, 15), (1, 16), (1, 17), (1, 18), (5, 0), (5, 2), (5, 3), (5, 5), (5, 6), (5, 13)], [], [], []))
abbrev b_Pn_lay : ByteArray := prog_9_method_2_code
def y_Pn_lay : MethodName := ⟨"DrawingHouse$PlanarWays", "lay", "(ILDrawingHouse$Graph;LDrawingHouse$Facts;LDrawingHouse$Net;LDrawingHouse$Drawing;)I"⟩
abbrev z_Pn_lay : List Cond := Cond.code y_Pn_lay b_Pn_lay 6 (some .int) :: lw_g
def e_Pn_lay : en_T := ([(2, 0, 0, [7]), (0, 1, 2, []), (2, 0, 0, [3]), (2, 0, 0, [2]), (2, 0, 0, [5]), (2, 0, 0, [0])], some (0, -3, 0, []), false, 12, 0, 0, [], [], (689929304580185120563938318419094569136668672, [(5, 5), (5, 6), (5, 13), (7, 3)], [], [], []))
abbrev b_Mo_planar : ByteArray := prog_15_method_94_code
def y_Mo_planar : MethodName := ⟨"DrawingHouseModel", "planar", "(II)I"⟩
abbrev z_Mo_planar : List Cond := Cond.code y_Mo_planar b_Mo_planar 4 (some .int) :: lw_g
def e_Mo_planar : en_T := ([(2, 0, 0, [150]), (0, -2147483648, 2147483647, []), (0, -2147483648, 2147483647, [])], some (0, -1, 160, []), false, 13, 0, 0, [], [], (91949687328090278909873222090249340901886115454098866176, [(13, 5), (13, 31), (13, 32), (13, 39), (13, 45), (13, 49), (13, 53), (13, 58), (13, 59)], [], [], []))
abbrev b_Mo_read : ByteArray := prog_15_method_41_code
def y_Mo_read : MethodName := ⟨"DrawingHouseModel", "read", "(II)I"⟩
abbrev z_Mo_read : List Cond := Cond.code y_Mo_read b_Mo_read 4 (some .int) :: lw_g
def e_Mo_read : en_T := ([(2, 0, 0, [150]), (0, -2147483648, 2147483647, []), (0, -2147483648, 2147483647, [])], some (0, -2, 24, []), false, 21, 0, 0, [], [], (401832590779448620633987814887891767576469317457700924162048, [(13, 0), (13, 5), (13, 7), (13, 8), (13, 9), (13, 10), (13, 11), (13, 12), (13, 13), (13, 14), (13, 15)], [(20, [0], [50, 0, 2, 3, 4, 5, 2, 0, 4, 0, 5, 3, 0, 3, 7, 0, 3, 0, 4, 7, 0])], [(20, [0], [50, 0, 2, 3, 4, 5, 2, 0, 4, 0, 5, 3, 0, 3, 7, 0, 3, 0, 4, 7, 0])], []))
abbrev b_Mo_turn : ByteArray := prog_15_method_95_code
def y_Mo_turn : MethodName := ⟨"DrawingHouseModel", "turn", "(IIII)I"⟩
abbrev z_Mo_turn : List Cond := Cond.code y_Mo_turn b_Mo_turn 6 (some .int) :: lw_g
def e_Mo_turn : en_T := ([(2, 0, 0, [150]), (0, -2147483648, 2147483647, []), (0, -2147483648, 2147483647, []), (0, -2147483648, 2147483647, []), (0, -2147483648, 2147483647, [])], some (0, -1, 79, []), false, 13, 0, 0, [], [], (91949687328090278909873222090249340901886115454098866176, [(13, 5), (13, 31), (13, 32), (13, 39), (13, 45), (13, 49), (13, 53), (13, 58), (13, 59)], [], [], []))
abbrev b_Ho_read : ByteArray := prog_1_method_3_code
def y_Ho_read : MethodName := ⟨"DrawingHouse", "read", "(II)I"⟩
abbrev z_Ho_read : List Cond := Cond.code y_Ho_read b_Ho_read 4 (some .int) :: lw_g
def e_Ho_read : en_T := ([(2, 0, 0, [12]), (0, -2147483648, 2147483647, []), (0, -2147483648, 2147483647, [])], some (0, -2, 24, []), false, 13, 0, 0, [], [], (1298074214633709212694158327676928, [(0, 1), (2, 0), (3, 0), (3, 1), (3, 2), (3, 17), (3, 18), (5, 0), (5, 1), (5, 2), (5, 3), (8, 1), (8, 2), (8, 3), (8, 5), (8, 6), (8, 7), (8, 8), (8, 9), (8, 11)], [], [], []))
abbrev b_Mo_bars : ByteArray := prog_15_method_151_code
def y_Mo_bars : MethodName := ⟨"DrawingHouseModel", "bars", "(I)I"⟩
abbrev z_Mo_bars : List Cond := Cond.code y_Mo_bars b_Mo_bars 8 (some .int) :: lw_g
def e_Mo_bars : en_T := ([(2, 0, 0, [150]), (0, 0, 3, [])], some (0, -2, 0, []), false, 13, 0, 0, [], [], (5328148179747247934902417442053654847287354198959744002497343390081875968, [(13, 31), (13, 32), (13, 39), (13, 45), (13, 49), (13, 53), (13, 125)], [], [], []))
abbrev b_Mo_grid : ByteArray := prog_15_method_143_code
def y_Mo_grid : MethodName := ⟨"DrawingHouseModel", "grid", "()I"⟩
abbrev z_Mo_grid : List Cond := Cond.code y_Mo_grid b_Mo_grid 7 (some .int) :: lw_g
def e_Mo_grid : en_T := ([(2, 0, 0, [150])], some (0, -3, 0, []), false, 13, 0, 0, [], [], (1352742494597944289427809896644050065177583776418147761619293613693337600, [(13, 31), (13, 32), (13, 39), (13, 45), (13, 49), (13, 53), (13, 121)], [], [], []))
abbrev b_Mo_draw : ByteArray := prog_15_method_107_code
def y_Mo_draw : MethodName := ⟨"DrawingHouseModel", "draw", "(III)I"⟩
abbrev z_Mo_draw : List Cond := Cond.code y_Mo_draw b_Mo_draw 5 (some .int) :: lw_g
def e_Mo_draw : en_T := ([(2, 0, 0, [150]), (0, -2147483648, 2147483647, []), (0, -2147483648, 2147483647, []), (0, -2147483648, 2147483647, [])], some (0, -3, 0, []), false, 14, 0, 0, [], [], (3618501278909117344761083840782528214649094249576951915564407343877416026112, [(13, 5), (13, 31), (13, 32), (13, 39), (13, 45), (13, 49), (13, 53), (13, 79), (13, 80), (13, 81), (13, 94), (13, 99), (13, 100), (13, 101), (13, 107), (13, 121), (13, 125), (13, 132), (13, 133), (13, 134)], [], [], []))
def e_Dr_overlap_np : en_T := ([(0, -2147483648, 2147483647, []), (0, -2147483648, 2147483647, []), (0, -2147483648, 2147483647, []), (0, -2147483648, 2147483647, [])], some (0, -2147483648, 2147483647, []), true, 6, 0, 0, [], [], (0, [], [], [], []))
def e_Dr_pointX_np : en_T := ([(2, 0, 0, [0]), (0, 0, 47, []), (0, 0, 25, [])], some (0, -2147483648, 2147483647, []), true, 6, 0, 0, [], [], (0, [], [], [], []))
def e_Dr_pointY_np : en_T := ([(2, 0, 0, [0]), (0, 0, 47, []), (0, 0, 25, [])], some (0, -2147483648, 2147483647, []), true, 6, 0, 0, [], [], (0, [], [], [], []))
def e_Ne_edgeBetween_np : en_T := ([(2, 0, 0, [5, 149]), (0, 0, 24, []), (0, 0, 24, [])], some (0, -1, 71, []), true, 6, 0, 0, [], [], (0, [], [], [], []))
def e_Ne_endAt_np : en_T := ([(2, 0, 0, [5, 149]), (0, -1, 71, []), (0, 0, 24, [])], some (0, 0, 143, []), true, 6, 0, 0, [], [], (0, [], [], [], []))
def e_Re_isDigit_np : en_T := ([(0, -128, 127, [])], some (0, 0, 1, []), true, 6, 0, 0, [], [], (0, [], [], [], []))
def e_Sy_isSmall_np : en_T := ([(0, -128, 127, [])], some (0, 0, 1, []), true, 6, 0, 0, [], [], (0, [], [], [], []))
def e_Mo_ex_np : en_T := ([(2, 0, 0, [150]), (0, 0, 47, []), (0, 0, 25, [])], some (0, -2147483648, 2147483647, []), true, 7, 0, 0, [], [], (0, [], [(20, [2, 0, 1], [50, 1, 1, 1139, 1064, 0, 2, 1, 0, 4, 14, 3, 1, 64, 4, 7, 6, 2, 0, 48, 2, 1, 139, 1, 2, 0, 1])], [], []))
def e_Mo_ey_np : en_T := ([(2, 0, 0, [150]), (0, 0, 47, []), (0, 0, 25, [])], some (0, -2147483648, 2147483647, []), true, 7, 0, 0, [], [], (0, [], [(20, [2, 0, 1], [50, 1, 1, 1139, 1064, 0, 2, 1, 0, 4, 14, 3, 1, 64, 4, 7, 6, 2, 0, 48, 2, 1, 139, 1, 2, 0, 1])], [], []))
def e_Mo_isOn_np : en_T := ([(1, -2147483648, 2147483647, []), (1, -2147483648, 2147483647, []), (1, -2147483648, 2147483647, []), (1, -2147483648, 2147483647, []), (1, -2147483648, 2147483647, []), (1, -2147483648, 2147483647, [])], some (0, 0, 1, []), true, 7, 0, 0, [], [], (0, [], [], [], []))
def e_Mo_max_np : en_T := ([(0, -2147483648, 2147483647, []), (0, -2147483648, 2147483647, [])], some (0, -2147483648, 2147483647, []), true, 6, 0, 0, [], [], (0, [], [], [(7, [0, 2], [5]), (7, [1, 2], [5])], []))
def e_Mo_min_np : en_T := ([(0, -2147483648, 2147483647, []), (0, -2147483648, 2147483647, [])], some (0, -2147483648, 2147483647, []), true, 6, 0, 0, [], [], (0, [], [], [(7, [2, 0], [5]), (7, [2, 1], [5])], []))
def e_Mo_signOf_np : en_T := ([(1, -9223372036854775808, 9223372036854775807, [])], some (0, -1, 1, []), true, 6, 0, 0, [], [], (0, [], [], [], []))
def e_Mo_turnOf_np : en_T := ([(1, -2147483648, 2147483647, []), (1, -2147483648, 2147483647, []), (1, -2147483648, 2147483647, []), (1, -2147483648, 2147483647, []), (1, -2147483648, 2147483647, []), (1, -2147483648, 2147483647, [])], some (1, -9223372036854775808, 9223372036854775807, []), true, 6, 0, 0, [], [], (0, [], [], [], []))
abbrev b_jInt_bitCount : ByteArray := prog_17_method_49_code
def y_jInt_bitCount : MethodName := ⟨"java/lang/Integer", "bitCount", "(I)I"⟩
abbrev z_jInt_bitCount : List Cond := Cond.code y_jInt_bitCount b_jInt_bitCount 1 (some .int) :: lw_g
abbrev b_jLong_bitCount : ByteArray := prog_18_method_50_code
def y_jLong_bitCount : MethodName := ⟨"java/lang/Long", "bitCount", "(J)I"⟩
abbrev z_jLong_bitCount : List Cond := Cond.code y_jLong_bitCount b_jLong_bitCount 2 (some .int) :: lw_g
abbrev b_jMath_abs1 : ByteArray := prog_19_method_59_code
def y_jMath_abs1 : MethodName := ⟨"java/lang/Math", "abs", "(I)I"⟩
abbrev z_jMath_abs1 : List Cond := Cond.code y_jMath_abs1 b_jMath_abs1 1 (some .int) :: lw_g
abbrev b_jMath_abs2 : ByteArray := prog_19_method_61_code
def y_jMath_abs2 : MethodName := ⟨"java/lang/Math", "abs", "(J)J"⟩
abbrev z_jMath_abs2 : List Cond := Cond.code y_jMath_abs2 b_jMath_abs2 2 (some .long) :: lw_g
abbrev b_jMath_floorDiv1 : ByteArray := prog_19_method_47_code
def y_jMath_floorDiv1 : MethodName := ⟨"java/lang/Math", "floorDiv", "(II)I"⟩
abbrev z_jMath_floorDiv1 : List Cond := Cond.code y_jMath_floorDiv1 b_jMath_floorDiv1 3 (some .int) :: lw_g
abbrev b_jMath_floorDiv2 : ByteArray := prog_19_method_49_code
def y_jMath_floorDiv2 : MethodName := ⟨"java/lang/Math", "floorDiv", "(JJ)J"⟩
abbrev z_jMath_floorDiv2 : List Cond := Cond.code y_jMath_floorDiv2 b_jMath_floorDiv2 6 (some .long) :: lw_g
abbrev b_jMath_max1 : ByteArray := prog_19_method_65_code
def y_jMath_max1 : MethodName := ⟨"java/lang/Math", "max", "(II)I"⟩
abbrev z_jMath_max1 : List Cond := Cond.code y_jMath_max1 b_jMath_max1 2 (some .int) :: lw_g
abbrev b_jMath_max2 : ByteArray := prog_19_method_66_code
def y_jMath_max2 : MethodName := ⟨"java/lang/Math", "max", "(JJ)J"⟩
abbrev z_jMath_max2 : List Cond := Cond.code y_jMath_max2 b_jMath_max2 4 (some .long) :: lw_g
abbrev b_jMath_min1 : ByteArray := prog_19_method_69_code
def y_jMath_min1 : MethodName := ⟨"java/lang/Math", "min", "(II)I"⟩
abbrev z_jMath_min1 : List Cond := Cond.code y_jMath_min1 b_jMath_min1 2 (some .int) :: lw_g
abbrev b_jMath_min2 : ByteArray := prog_19_method_70_code
def y_jMath_min2 : MethodName := ⟨"java/lang/Math", "min", "(JJ)J"⟩
abbrev z_jMath_min2 : List Cond := Cond.code y_jMath_min2 b_jMath_min2 4 (some .long) :: lw_g
abbrev b_jStr_charAt : ByteArray := prog_20_method_56_code
def y_jStr_charAt : MethodName := ⟨"java/lang/String", "charAt", "(I)C"⟩
abbrev z_jStr_charAt : List Cond := Cond.code y_jStr_charAt b_jStr_charAt 2 (some .char) :: lw_g
abbrev b_jStr_checkIndex : ByteArray := prog_20_method_155_code
def y_jStr_checkIndex : MethodName := ⟨"java/lang/String", "checkIndex", "(II)V"⟩
abbrev z_jStr_checkIndex : List Cond := Cond.code y_jStr_checkIndex b_jStr_checkIndex 2 none :: lw_g
abbrev b_jStr_coder : ByteArray := prog_20_method_152_code
def y_jStr_coder : MethodName := ⟨"java/lang/String", "coder", "()B"⟩
abbrev z_jStr_coder : List Cond := Cond.code y_jStr_coder b_jStr_coder 1 (some .byte) :: lw_g
abbrev b_jStr_indexOf1 : ByteArray := prog_20_method_79_code
def y_jStr_indexOf1 : MethodName := ⟨"java/lang/String", "indexOf", "(I)I"⟩
abbrev z_jStr_indexOf1 : List Cond := Cond.code y_jStr_indexOf1 b_jStr_indexOf1 2 (some .int) :: lw_g
abbrev b_jStr_indexOf2 : ByteArray := prog_20_method_80_code
def y_jStr_indexOf2 : MethodName := ⟨"java/lang/String", "indexOf", "(II)I"⟩
abbrev z_jStr_indexOf2 : List Cond := Cond.code y_jStr_indexOf2 b_jStr_indexOf2 3 (some .int) :: lw_g
abbrev b_jStr_isLatin1 : ByteArray := prog_20_method_154_code
def y_jStr_isLatin1 : MethodName := ⟨"java/lang/String", "isLatin1", "()Z"⟩
abbrev z_jStr_isLatin1 : List Cond := Cond.code y_jStr_isLatin1 b_jStr_isLatin1 1 (some .boolean) :: lw_g
abbrev b_jStr_length : ByteArray := prog_20_method_54_code
def y_jStr_length : MethodName := ⟨"java/lang/String", "length", "()I"⟩
abbrev z_jStr_length : List Cond := Cond.code y_jStr_length b_jStr_length 1 (some .int) :: lw_g
abbrev b_jLat_canEncode : ByteArray := prog_21_method_4_code
def y_jLat_canEncode : MethodName := ⟨"java/lang/StringLatin1", "canEncode", "(I)Z"⟩
abbrev z_jLat_canEncode : List Cond := Cond.code y_jLat_canEncode b_jLat_canEncode 1 (some .boolean) :: lw_g
abbrev b_jLat_charAt : ByteArray := prog_21_method_2_code
def y_jLat_charAt : MethodName := ⟨"java/lang/StringLatin1", "charAt", "([BI)C"⟩
abbrev z_jLat_charAt : List Cond := Cond.code y_jLat_charAt b_jLat_charAt 2 (some .char) :: lw_g
abbrev b_jLat_indexOf : ByteArray := prog_21_method_22_code
def y_jLat_indexOf : MethodName := ⟨"java/lang/StringLatin1", "indexOf", "([BIII)I"⟩
abbrev z_jLat_indexOf : List Cond := Cond.code y_jLat_indexOf b_jLat_indexOf 4 (some .int) :: lw_g
abbrev b_jLat_indexOfChar : ByteArray := prog_21_method_23_code
def y_jLat_indexOfChar : MethodName := ⟨"java/lang/StringLatin1", "indexOfChar", "([BIII)I"⟩
abbrev z_jLat_indexOfChar : List Cond := Cond.code y_jLat_indexOfChar b_jLat_indexOfChar 6 (some .int) :: lw_g
abbrev b_jArr_fill1 : ByteArray := prog_24_method_103_code
def y_jArr_fill1 : MethodName := ⟨"java/util/Arrays", "fill", "([II)V"⟩
abbrev z_jArr_fill1 : List Cond := Cond.code y_jArr_fill1 b_jArr_fill1 4 none :: lw_g
abbrev b_jPre_checkIndex : ByteArray := prog_25_method_11_code
def y_jPre_checkIndex : MethodName := ⟨"jdk/internal/util/Preconditions", "checkIndex", "(IILjava/util/function/BiFunction;)I"⟩
abbrev z_jPre_checkIndex : List Cond := Cond.code y_jPre_checkIndex b_jPre_checkIndex 3 (some .int) :: lw_g
def e_jArr_fill1_v0 : en_T := ([(2, 0, 0, [16]), (0, 0, 0, [])], none, false, 1, 0, 0, [], [], (65536, [], [], [], []))
def n_jArr_fill1_v0_an : List an_T := [(5, [(0, (2, 0, 0, [16])), (1, (0, 0, 0, [])), (2, (0, 0, 48, [])), (3, (0, 48, 48, []))], [], (0, 0), [(0, 0, 99995), (1, 2, 48), (0, 0, 100000)], [], [], [], 0, [], [])]
def t_jArr_fill1_v0_ct : ct_L := []
set_option maxRecDepth 100000 in
theorem c_jArr_fill1_v0 {l : Launch} {D : va_G} {kA : Nat → ClassId} : ct_ok l D kA GG y_jArr_fill1 z_jArr_fill1 e_jArr_fill1_v0 := chk_all_ok (FT := []) (PT := []) (CT := t_jArr_fill1_v0_ct) (KT := []) (NT := []) (AN := n_jArr_fill1_v0_an) (OT := []) 3 200 (List.forall_mem_nil _) (by decide +kernel) ⟨List.forall_mem_nil _, List.forall_mem_nil _, List.forall_mem_nil _, List.forall_mem_nil _, List.forall_mem_nil _, GG_pl⟩ (by decide +kernel)
def e_jMath_max1_v1 : en_T := ([(0, 1, 1, []), (0, -2147483648, 2147483647, [])], some (0, 1, 2147483647, []), true, 1, 0, 0, [], [], (0, [], [], [], []))
def n_jMath_max1_v1_an : List an_T := []
def t_jMath_max1_v1_ct : ct_L := []
set_option maxRecDepth 100000 in
theorem c_jMath_max1_v1 {l : Launch} {D : va_G} {kA : Nat → ClassId} : ct_ok l D kA GG y_jMath_max1 z_jMath_max1 e_jMath_max1_v1 := chk_all_ok (FT := []) (PT := []) (CT := t_jMath_max1_v1_ct) (KT := []) (NT := []) (AN := n_jMath_max1_v1_an) (OT := []) 0 200 (List.forall_mem_nil _) (pl_Math rfl (by decide)) ⟨List.forall_mem_nil _, List.forall_mem_nil _, List.forall_mem_nil _, List.forall_mem_nil _, List.forall_mem_nil _, GG_pl⟩ (by decide +kernel)
def e_jArr_fill1_v2 : en_T := ([(2, 0, 0, [23]), (0, 0, 0, [])], none, false, 1, 0, 0, [], [], (8388608, [], [], [], []))
def n_jArr_fill1_v2_an : List an_T := [(5, [(0, (2, 0, 0, [23])), (1, (0, 0, 0, [])), (2, (0, 0, 216, [])), (3, (0, 216, 216, []))], [], (0, 0), [(0, 0, 99995), (1, 2, 216), (0, 0, 100000)], [], [], [], 0, [], [])]
def t_jArr_fill1_v2_ct : ct_L := []
set_option maxRecDepth 100000 in
theorem c_jArr_fill1_v2 {l : Launch} {D : va_G} {kA : Nat → ClassId} : ct_ok l D kA GG y_jArr_fill1 z_jArr_fill1 e_jArr_fill1_v2 := chk_all_ok (FT := []) (PT := []) (CT := t_jArr_fill1_v2_ct) (KT := []) (NT := []) (AN := n_jArr_fill1_v2_an) (OT := []) 3 200 (List.forall_mem_nil _) (by decide +kernel) ⟨List.forall_mem_nil _, List.forall_mem_nil _, List.forall_mem_nil _, List.forall_mem_nil _, List.forall_mem_nil _, GG_pl⟩ (by decide +kernel)
def e_jLong_bitCount_v3 : en_T := ([(1, 0, 0, [])], some (0, 0, 127, []), true, 1, 0, 0, [], [], (0, [], [], [], []))
def n_jLong_bitCount_v3_an : List an_T := []
def t_jLong_bitCount_v3_ct : ct_L := []
set_option maxRecDepth 100000 in
theorem c_jLong_bitCount_v3 {l : Launch} {D : va_G} {kA : Nat → ClassId} : ct_ok l D kA GG y_jLong_bitCount z_jLong_bitCount e_jLong_bitCount_v3 := chk_all_ok (FT := []) (PT := []) (CT := t_jLong_bitCount_v3_ct) (KT := [(2, 314, .long (6148914691236517205), (1, 6148914691236517205, 6148914691236517205, [])), (2, 316, .long (3689348814741910323), (1, 3689348814741910323, 3689348814741910323, [])), (2, 318, .long (1085102592571150095), (1, 1085102592571150095, 1085102592571150095, []))]) (NT := []) (AN := n_jLong_bitCount_v3_an) (OT := []) 0 200 (List.forall_mem_nil _) (by decide +kernel) ⟨List.forall_mem_nil _, List.forall_mem_nil _, List.forall_mem_nil _, List.forall_mem_cons.mpr ⟨⟨kt_mk2 wm_848, fun _ => Or.inr (Or.inl ⟨rfl, _, rfl, by decide, by decide⟩)⟩, List.forall_mem_cons.mpr ⟨⟨kt_mk2 wm_849, fun _ => Or.inr (Or.inl ⟨rfl, _, rfl, by decide, by decide⟩)⟩, List.forall_mem_cons.mpr ⟨⟨kt_mk2 wm_850, fun _ => Or.inr (Or.inl ⟨rfl, _, rfl, by decide, by decide⟩)⟩, List.forall_mem_nil _⟩⟩⟩, List.forall_mem_nil _, GG_pl⟩ (by decide +kernel)
def e_jLong_bitCount_v4 : en_T := ([(1, -9223372036854775808, 9223372036854775807, [])], some (0, 0, 127, []), true, 1, 0, 0, [], [], (0, [], [], [], []))
def n_jLong_bitCount_v4_an : List an_T := []
def t_jLong_bitCount_v4_ct : ct_L := []
set_option maxRecDepth 100000 in
theorem c_jLong_bitCount_v4 {l : Launch} {D : va_G} {kA : Nat → ClassId} : ct_ok l D kA GG y_jLong_bitCount z_jLong_bitCount e_jLong_bitCount_v4 := chk_all_ok (FT := []) (PT := []) (CT := t_jLong_bitCount_v4_ct) (KT := [(2, 314, .long (6148914691236517205), (1, 6148914691236517205, 6148914691236517205, [])), (2, 316, .long (3689348814741910323), (1, 3689348814741910323, 3689348814741910323, [])), (2, 318, .long (1085102592571150095), (1, 1085102592571150095, 1085102592571150095, []))]) (NT := []) (AN := n_jLong_bitCount_v4_an) (OT := []) 0 200 (List.forall_mem_nil _) (by decide +kernel) ⟨List.forall_mem_nil _, List.forall_mem_nil _, List.forall_mem_nil _, List.forall_mem_cons.mpr ⟨⟨kt_mk2 wm_848, fun _ => Or.inr (Or.inl ⟨rfl, _, rfl, by decide, by decide⟩)⟩, List.forall_mem_cons.mpr ⟨⟨kt_mk2 wm_849, fun _ => Or.inr (Or.inl ⟨rfl, _, rfl, by decide, by decide⟩)⟩, List.forall_mem_cons.mpr ⟨⟨kt_mk2 wm_850, fun _ => Or.inr (Or.inl ⟨rfl, _, rfl, by decide, by decide⟩)⟩, List.forall_mem_nil _⟩⟩⟩, List.forall_mem_nil _, GG_pl⟩ (by decide +kernel)
def e_jInt_bitCount_v5 : en_T := ([(0, -1, 33554430, [])], some (0, 0, 63, []), true, 1, 0, 0, [], [], (0, [], [], [], []))
def n_jInt_bitCount_v5_an : List an_T := []
def t_jInt_bitCount_v5_ct : ct_L := []
set_option maxRecDepth 100000 in
theorem c_jInt_bitCount_v5 {l : Launch} {D : va_G} {kA : Nat → ClassId} : ct_ok l D kA GG y_jInt_bitCount z_jInt_bitCount e_jInt_bitCount_v5 := chk_all_ok (FT := []) (PT := []) (CT := t_jInt_bitCount_v5_ct) (KT := [(1, 265, .int (1431655765), (0, 1431655765, 1431655765, [])), (1, 266, .int (858993459), (0, 858993459, 858993459, [])), (1, 267, .int (252645135), (0, 252645135, 252645135, []))]) (NT := []) (AN := n_jInt_bitCount_v5_an) (OT := []) 0 200 (List.forall_mem_nil _) (by decide +kernel) ⟨List.forall_mem_nil _, List.forall_mem_nil _, List.forall_mem_nil _, List.forall_mem_cons.mpr ⟨kx_jInt_1_265, List.forall_mem_cons.mpr ⟨kx_jInt_1_266, List.forall_mem_cons.mpr ⟨kx_jInt_1_267, List.forall_mem_nil _⟩⟩⟩, List.forall_mem_nil _, GG_pl⟩ (by decide +kernel)
def e_jArr_fill1_v6 : en_T := ([(2, 0, 0, [39, 44]), (0, -1, -1, [])], none, false, 1, 0, 0, [], [], (18141941858304, [], [], [], []))
def n_jArr_fill1_v6_an : List an_T := [(5, [(0, (2, 0, 0, [39, 44])), (1, (0, -1, -1, [])), (2, (0, 0, 24, [])), (3, (0, 24, 24, []))], [], (0, 0), [(0, 0, 99995), (1, 2, 24), (0, 0, 100000)], [], [], [], 0, [], [])]
def t_jArr_fill1_v6_ct : ct_L := []
set_option maxRecDepth 100000 in
theorem c_jArr_fill1_v6 {l : Launch} {D : va_G} {kA : Nat → ClassId} : ct_ok l D kA GG y_jArr_fill1 z_jArr_fill1 e_jArr_fill1_v6 := chk_all_ok (FT := []) (PT := []) (CT := t_jArr_fill1_v6_ct) (KT := []) (NT := []) (AN := n_jArr_fill1_v6_an) (OT := []) 3 200 (List.forall_mem_nil _) (by decide +kernel) ⟨List.forall_mem_nil _, List.forall_mem_nil _, List.forall_mem_nil _, List.forall_mem_nil _, List.forall_mem_nil _, GG_pl⟩ (by decide +kernel)
def e_jInt_bitCount_v7 : en_T := ([(0, 0, 16777215, [])], some (0, 0, 63, []), true, 1, 0, 0, [], [], (0, [], [], [], []))
def n_jInt_bitCount_v7_an : List an_T := []
def t_jInt_bitCount_v7_ct : ct_L := []
set_option maxRecDepth 100000 in
theorem c_jInt_bitCount_v7 {l : Launch} {D : va_G} {kA : Nat → ClassId} : ct_ok l D kA GG y_jInt_bitCount z_jInt_bitCount e_jInt_bitCount_v7 := chk_all_ok (FT := []) (PT := []) (CT := t_jInt_bitCount_v7_ct) (KT := [(1, 265, .int (1431655765), (0, 1431655765, 1431655765, [])), (1, 266, .int (858993459), (0, 858993459, 858993459, [])), (1, 267, .int (252645135), (0, 252645135, 252645135, []))]) (NT := []) (AN := n_jInt_bitCount_v7_an) (OT := []) 0 200 (List.forall_mem_nil _) (by decide +kernel) ⟨List.forall_mem_nil _, List.forall_mem_nil _, List.forall_mem_nil _, List.forall_mem_cons.mpr ⟨kx_jInt_1_265, List.forall_mem_cons.mpr ⟨kx_jInt_1_266, List.forall_mem_cons.mpr ⟨kx_jInt_1_267, List.forall_mem_nil _⟩⟩⟩, List.forall_mem_nil _, GG_pl⟩ (by decide +kernel)
def e_jArr_fill1_v8 : en_T := ([(2, 0, 0, [59]), (0, 0, 0, [])], none, false, 1, 0, 0, [], [], (576460752303423488, [], [], [], []))
def n_jArr_fill1_v8_an : List an_T := [(5, [(0, (2, 0, 0, [59])), (1, (0, 0, 0, [])), (2, (0, 0, 24, [])), (3, (0, 24, 24, []))], [], (0, 0), [(0, 0, 99995), (1, 2, 24), (0, 0, 100000)], [], [], [], 0, [], [])]
def t_jArr_fill1_v8_ct : ct_L := []
set_option maxRecDepth 100000 in
theorem c_jArr_fill1_v8 {l : Launch} {D : va_G} {kA : Nat → ClassId} : ct_ok l D kA GG y_jArr_fill1 z_jArr_fill1 e_jArr_fill1_v8 := chk_all_ok (FT := []) (PT := []) (CT := t_jArr_fill1_v8_ct) (KT := []) (NT := []) (AN := n_jArr_fill1_v8_an) (OT := []) 3 200 (List.forall_mem_nil _) (by decide +kernel) ⟨List.forall_mem_nil _, List.forall_mem_nil _, List.forall_mem_nil _, List.forall_mem_nil _, List.forall_mem_nil _, GG_pl⟩ (by decide +kernel)
def e_jArr_fill1_v9 : en_T := ([(2, 0, 0, [60]), (0, -1, -1, [])], none, false, 1, 0, 0, [], [], (1152921504606846976, [], [], [], []))
def n_jArr_fill1_v9_an : List an_T := [(5, [(0, (2, 0, 0, [60])), (1, (0, -1, -1, [])), (2, (0, 0, 576, [])), (3, (0, 576, 576, []))], [], (0, 0), [(0, 0, 99995), (1, 2, 576), (0, 0, 100000)], [], [], [], 0, [], [])]
def t_jArr_fill1_v9_ct : ct_L := []
set_option maxRecDepth 100000 in
theorem c_jArr_fill1_v9 {l : Launch} {D : va_G} {kA : Nat → ClassId} : ct_ok l D kA GG y_jArr_fill1 z_jArr_fill1 e_jArr_fill1_v9 := chk_all_ok (FT := []) (PT := []) (CT := t_jArr_fill1_v9_ct) (KT := []) (NT := []) (AN := n_jArr_fill1_v9_an) (OT := []) 3 200 (List.forall_mem_nil _) (by decide +kernel) ⟨List.forall_mem_nil _, List.forall_mem_nil _, List.forall_mem_nil _, List.forall_mem_nil _, List.forall_mem_nil _, GG_pl⟩ (by decide +kernel)
def e_jArr_fill1_v10 : en_T := ([(2, 0, 0, [82]), (0, 0, 0, [])], none, false, 1, 0, 0, [], [], (4835703278458516698824704, [], [], [], []))
def n_jArr_fill1_v10_an : List an_T := [(5, [(0, (2, 0, 0, [82])), (1, (0, 0, 0, [])), (2, (0, 0, 25, [])), (3, (0, 25, 25, []))], [], (0, 0), [(0, 0, 99995), (1, 2, 25), (0, 0, 100000)], [], [], [], 0, [], [])]
def t_jArr_fill1_v10_ct : ct_L := []
set_option maxRecDepth 100000 in
theorem c_jArr_fill1_v10 {l : Launch} {D : va_G} {kA : Nat → ClassId} : ct_ok l D kA GG y_jArr_fill1 z_jArr_fill1 e_jArr_fill1_v10 := chk_all_ok (FT := []) (PT := []) (CT := t_jArr_fill1_v10_ct) (KT := []) (NT := []) (AN := n_jArr_fill1_v10_an) (OT := []) 3 200 (List.forall_mem_nil _) (by decide +kernel) ⟨List.forall_mem_nil _, List.forall_mem_nil _, List.forall_mem_nil _, List.forall_mem_nil _, List.forall_mem_nil _, GG_pl⟩ (by decide +kernel)
def e_jArr_fill1_v11 : en_T := ([(2, 0, 0, [83]), (0, -1, -1, [])], none, false, 1, 0, 0, [], [], (9671406556917033397649408, [], [], [], []))
def n_jArr_fill1_v11_an : List an_T := [(5, [(0, (2, 0, 0, [83])), (1, (0, -1, -1, [])), (2, (0, 0, 625, [])), (3, (0, 625, 625, []))], [], (0, 0), [(0, 0, 99995), (1, 2, 625), (0, 0, 100000)], [], [], [], 0, [], [])]
def t_jArr_fill1_v11_ct : ct_L := []
set_option maxRecDepth 100000 in
theorem c_jArr_fill1_v11 {l : Launch} {D : va_G} {kA : Nat → ClassId} : ct_ok l D kA GG y_jArr_fill1 z_jArr_fill1 e_jArr_fill1_v11 := chk_all_ok (FT := []) (PT := []) (CT := t_jArr_fill1_v11_ct) (KT := []) (NT := []) (AN := n_jArr_fill1_v11_an) (OT := []) 3 200 (List.forall_mem_nil _) (by decide +kernel) ⟨List.forall_mem_nil _, List.forall_mem_nil _, List.forall_mem_nil _, List.forall_mem_nil _, List.forall_mem_nil _, GG_pl⟩ (by decide +kernel)
def e_jArr_fill1_v12 : en_T := ([(2, 0, 0, [85]), (0, -1, -1, [])], none, false, 1, 0, 0, [], [], (38685626227668133590597632, [], [], [], []))
def n_jArr_fill1_v12_an : List an_T := [(5, [(0, (2, 0, 0, [85])), (1, (0, -1, -1, [])), (2, (0, 0, 25, [])), (3, (0, 25, 25, []))], [], (0, 0), [(0, 0, 99995), (1, 2, 25), (0, 0, 100000)], [], [], [], 0, [], [])]
def t_jArr_fill1_v12_ct : ct_L := []
set_option maxRecDepth 100000 in
theorem c_jArr_fill1_v12 {l : Launch} {D : va_G} {kA : Nat → ClassId} : ct_ok l D kA GG y_jArr_fill1 z_jArr_fill1 e_jArr_fill1_v12 := chk_all_ok (FT := []) (PT := []) (CT := t_jArr_fill1_v12_ct) (KT := []) (NT := []) (AN := n_jArr_fill1_v12_an) (OT := []) 3 200 (List.forall_mem_nil _) (by decide +kernel) ⟨List.forall_mem_nil _, List.forall_mem_nil _, List.forall_mem_nil _, List.forall_mem_nil _, List.forall_mem_nil _, GG_pl⟩ (by decide +kernel)
def e_jArr_fill1_v13 : en_T := ([(2, 0, 0, [142]), (0, 0, 0, [])], none, false, 1, 0, 0, [], [], (5575186299632655785383929568162090376495104, [], [], [], []))
def n_jArr_fill1_v13_an : List an_T := [(5, [(0, (2, 0, 0, [142])), (1, (0, 0, 0, [])), (2, (0, 0, 25, [])), (3, (0, 25, 25, []))], [], (0, 0), [(0, 0, 99995), (1, 2, 25), (0, 0, 100000)], [], [], [], 0, [], [])]
def t_jArr_fill1_v13_ct : ct_L := []
set_option maxRecDepth 100000 in
theorem c_jArr_fill1_v13 {l : Launch} {D : va_G} {kA : Nat → ClassId} : ct_ok l D kA GG y_jArr_fill1 z_jArr_fill1 e_jArr_fill1_v13 := chk_all_ok (FT := []) (PT := []) (CT := t_jArr_fill1_v13_ct) (KT := []) (NT := []) (AN := n_jArr_fill1_v13_an) (OT := []) 3 200 (List.forall_mem_nil _) (by decide +kernel) ⟨List.forall_mem_nil _, List.forall_mem_nil _, List.forall_mem_nil _, List.forall_mem_nil _, List.forall_mem_nil _, GG_pl⟩ (by decide +kernel)
def e_jArr_fill1_v14 : en_T := ([(2, 0, 0, [143]), (0, -1, -1, [])], none, false, 1, 0, 0, [], [], (11150372599265311570767859136324180752990208, [], [], [], []))
def n_jArr_fill1_v14_an : List an_T := [(5, [(0, (2, 0, 0, [143])), (1, (0, -1, -1, [])), (2, (0, 0, 625, [])), (3, (0, 625, 625, []))], [], (0, 0), [(0, 0, 99995), (1, 2, 625), (0, 0, 100000)], [], [], [], 0, [], [])]
def t_jArr_fill1_v14_ct : ct_L := []
set_option maxRecDepth 100000 in
theorem c_jArr_fill1_v14 {l : Launch} {D : va_G} {kA : Nat → ClassId} : ct_ok l D kA GG y_jArr_fill1 z_jArr_fill1 e_jArr_fill1_v14 := chk_all_ok (FT := []) (PT := []) (CT := t_jArr_fill1_v14_ct) (KT := []) (NT := []) (AN := n_jArr_fill1_v14_an) (OT := []) 3 200 (List.forall_mem_nil _) (by decide +kernel) ⟨List.forall_mem_nil _, List.forall_mem_nil _, List.forall_mem_nil _, List.forall_mem_nil _, List.forall_mem_nil _, GG_pl⟩ (by decide +kernel)
def e_jArr_fill1_v15 : en_T := ([(2, 0, 0, [145]), (0, -1, -1, [])], none, false, 1, 0, 0, [], [], (44601490397061246283071436545296723011960832, [], [], [], []))
def n_jArr_fill1_v15_an : List an_T := [(5, [(0, (2, 0, 0, [145])), (1, (0, -1, -1, [])), (2, (0, 0, 25, [])), (3, (0, 25, 25, []))], [], (0, 0), [(0, 0, 99995), (1, 2, 25), (0, 0, 100000)], [], [], [], 0, [], [])]
def t_jArr_fill1_v15_ct : ct_L := []
set_option maxRecDepth 100000 in
theorem c_jArr_fill1_v15 {l : Launch} {D : va_G} {kA : Nat → ClassId} : ct_ok l D kA GG y_jArr_fill1 z_jArr_fill1 e_jArr_fill1_v15 := chk_all_ok (FT := []) (PT := []) (CT := t_jArr_fill1_v15_ct) (KT := []) (NT := []) (AN := n_jArr_fill1_v15_an) (OT := []) 3 200 (List.forall_mem_nil _) (by decide +kernel) ⟨List.forall_mem_nil _, List.forall_mem_nil _, List.forall_mem_nil _, List.forall_mem_nil _, List.forall_mem_nil _, GG_pl⟩ (by decide +kernel)
def e_jInt_bitCount_v16 : en_T := ([(0, 0, 0, [])], some (0, 0, 63, []), true, 1, 0, 0, [], [], (0, [], [], [], []))
def n_jInt_bitCount_v16_an : List an_T := []
def t_jInt_bitCount_v16_ct : ct_L := []
set_option maxRecDepth 100000 in
theorem c_jInt_bitCount_v16 {l : Launch} {D : va_G} {kA : Nat → ClassId} : ct_ok l D kA GG y_jInt_bitCount z_jInt_bitCount e_jInt_bitCount_v16 := chk_all_ok (FT := []) (PT := []) (CT := t_jInt_bitCount_v16_ct) (KT := [(1, 265, .int (1431655765), (0, 1431655765, 1431655765, [])), (1, 266, .int (858993459), (0, 858993459, 858993459, [])), (1, 267, .int (252645135), (0, 252645135, 252645135, []))]) (NT := []) (AN := n_jInt_bitCount_v16_an) (OT := []) 0 200 (List.forall_mem_nil _) (by decide +kernel) ⟨List.forall_mem_nil _, List.forall_mem_nil _, List.forall_mem_nil _, List.forall_mem_cons.mpr ⟨kx_jInt_1_265, List.forall_mem_cons.mpr ⟨kx_jInt_1_266, List.forall_mem_cons.mpr ⟨kx_jInt_1_267, List.forall_mem_nil _⟩⟩⟩, List.forall_mem_nil _, GG_pl⟩ (by decide +kernel)
def e_jMath_max1_v17 : en_T := ([(0, -2147483648, 2147483647, []), (0, -2147483648, 2147483647, [])], some (0, -2147483648, 2147483647, []), true, 1, 0, 0, [], [], (0, [], [], [], []))
def n_jMath_max1_v17_an : List an_T := []
def t_jMath_max1_v17_ct : ct_L := []
set_option maxRecDepth 100000 in
theorem c_jMath_max1_v17 {l : Launch} {D : va_G} {kA : Nat → ClassId} : ct_ok l D kA GG y_jMath_max1 z_jMath_max1 e_jMath_max1_v17 := chk_all_ok (FT := []) (PT := []) (CT := t_jMath_max1_v17_ct) (KT := []) (NT := []) (AN := n_jMath_max1_v17_an) (OT := []) 0 200 (List.forall_mem_nil _) (pl_Math rfl (by decide)) ⟨List.forall_mem_nil _, List.forall_mem_nil _, List.forall_mem_nil _, List.forall_mem_nil _, List.forall_mem_nil _, GG_pl⟩ (by decide +kernel)
def e_jArr_fill1_v18 : en_T := ([(2, 0, 0, [124]), (0, -1, -1, [])], none, false, 1, 0, 0, [], [], (21267647932558653966460912964485513216, [], [], [], []))
def n_jArr_fill1_v18_an : List an_T := [(5, [(0, (2, 0, 0, [124])), (1, (0, -1, -1, [])), (2, (0, 0, 72, [])), (3, (0, 72, 72, []))], [], (0, 0), [(0, 0, 99995), (1, 2, 72), (0, 0, 100000)], [], [], [], 0, [], [])]
def t_jArr_fill1_v18_ct : ct_L := []
set_option maxRecDepth 100000 in
theorem c_jArr_fill1_v18 {l : Launch} {D : va_G} {kA : Nat → ClassId} : ct_ok l D kA GG y_jArr_fill1 z_jArr_fill1 e_jArr_fill1_v18 := chk_all_ok (FT := []) (PT := []) (CT := t_jArr_fill1_v18_ct) (KT := []) (NT := []) (AN := n_jArr_fill1_v18_an) (OT := []) 3 200 (List.forall_mem_nil _) (by decide +kernel) ⟨List.forall_mem_nil _, List.forall_mem_nil _, List.forall_mem_nil _, List.forall_mem_nil _, List.forall_mem_nil _, GG_pl⟩ (by decide +kernel)
def e_jMath_floorDiv2_v19 : en_T := ([(1, -9223372036854775808, 9223372036854775807, []), (1, -9223372036854775808, 9223372036854775807, [])], some (1, -9223372036854775808, 9223372036854775807, []), true, 1, 0, 0, [], [], (0, [], [(8, [1], [1])], [], []))
def o_jMath_floorDiv2_v19_0 : or_T := (1000000, 0, [], [], [], [], [], [], [])
theorem oo_jMath_floorDiv2_v19_0 {kA : Nat → ClassId} : or_ok kA GG o_jMath_floorDiv2_v19_0 := fun _ _ _ _ _ _ _ _ _ _ => ⟨fun q h => (by cases h), [], trivial, fun f h => (by cases h), fun q h => (by cases h)⟩
def n_jMath_floorDiv2_v19_an : List an_T := []
def t_jMath_floorDiv2_v19_ct : ct_L := []
set_option maxRecDepth 100000 in
theorem c_jMath_floorDiv2_v19 {l : Launch} {D : va_G} {kA : Nat → ClassId} : ct_ok l D kA GG y_jMath_floorDiv2 z_jMath_floorDiv2 e_jMath_floorDiv2_v19 := chk_all_ok (FT := []) (PT := []) (CT := t_jMath_floorDiv2_v19_ct) (KT := []) (NT := []) (AN := n_jMath_floorDiv2_v19_an) (OT := [o_jMath_floorDiv2_v19_0]) 0 200 (List.forall_mem_cons.mpr ⟨oo_jMath_floorDiv2_v19_0, List.forall_mem_nil _⟩) (pl_Math rfl (by decide)) ⟨List.forall_mem_nil _, List.forall_mem_nil _, List.forall_mem_nil _, List.forall_mem_nil _, List.forall_mem_nil _, GG_pl⟩ (by decide +kernel)
def e_jMath_max2_v20 : en_T := ([(1, 1, 1, []), (1, -4294967295, 4294967295, [])], some (1, 1, 4294967295, []), true, 1, 0, 0, [], [], (0, [], [], [], []))
def n_jMath_max2_v20_an : List an_T := []
def t_jMath_max2_v20_ct : ct_L := []
set_option maxRecDepth 100000 in
theorem c_jMath_max2_v20 {l : Launch} {D : va_G} {kA : Nat → ClassId} : ct_ok l D kA GG y_jMath_max2 z_jMath_max2 e_jMath_max2_v20 := chk_all_ok (FT := []) (PT := []) (CT := t_jMath_max2_v20_ct) (KT := []) (NT := []) (AN := n_jMath_max2_v20_an) (OT := []) 0 200 (List.forall_mem_nil _) (pl_Math rfl (by decide)) ⟨List.forall_mem_nil _, List.forall_mem_nil _, List.forall_mem_nil _, List.forall_mem_nil _, List.forall_mem_nil _, GG_pl⟩ (by decide +kernel)
def e_jMath_abs1_v21 : en_T := ([(0, -2147483648, 2147483647, [])], some (0, -2147483648, 2147483647, []), true, 1, 0, 0, [], [], (0, [], [], [], []))
def n_jMath_abs1_v21_an : List an_T := []
def t_jMath_abs1_v21_ct : ct_L := []
set_option maxRecDepth 100000 in
theorem c_jMath_abs1_v21 {l : Launch} {D : va_G} {kA : Nat → ClassId} : ct_ok l D kA GG y_jMath_abs1 z_jMath_abs1 e_jMath_abs1_v21 := chk_all_ok (FT := []) (PT := []) (CT := t_jMath_abs1_v21_ct) (KT := []) (NT := []) (AN := n_jMath_abs1_v21_an) (OT := []) 0 200 (List.forall_mem_nil _) (pl_Math rfl (by decide)) ⟨List.forall_mem_nil _, List.forall_mem_nil _, List.forall_mem_nil _, List.forall_mem_nil _, List.forall_mem_nil _, GG_pl⟩ (by decide +kernel)
def e_jMath_abs2_v22 : en_T := ([(1, -9223372034707292160, 9223372034707292160, [])], some (1, 0, 9223372034707292160, []), true, 1, 0, 0, [], [], (0, [], [], [], []))
def n_jMath_abs2_v22_an : List an_T := []
def t_jMath_abs2_v22_ct : ct_L := []
set_option maxRecDepth 100000 in
theorem c_jMath_abs2_v22 {l : Launch} {D : va_G} {kA : Nat → ClassId} : ct_ok l D kA GG y_jMath_abs2 z_jMath_abs2 e_jMath_abs2_v22 := chk_all_ok (FT := []) (PT := []) (CT := t_jMath_abs2_v22_ct) (KT := []) (NT := []) (AN := n_jMath_abs2_v22_an) (OT := []) 0 200 (List.forall_mem_nil _) (pl_Math rfl (by decide)) ⟨List.forall_mem_nil _, List.forall_mem_nil _, List.forall_mem_nil _, List.forall_mem_nil _, List.forall_mem_nil _, GG_pl⟩ (by decide +kernel)
def e_jMath_min2_v23 : en_T := ([(1, 0, 9223372034707292160, []), (1, 0, 9223372034707292160, [])], some (1, 0, 9223372034707292160, []), true, 1, 0, 0, [], [], (0, [], [], [], []))
def n_jMath_min2_v23_an : List an_T := []
def t_jMath_min2_v23_ct : ct_L := []
set_option maxRecDepth 100000 in
theorem c_jMath_min2_v23 {l : Launch} {D : va_G} {kA : Nat → ClassId} : ct_ok l D kA GG y_jMath_min2 z_jMath_min2 e_jMath_min2_v23 := chk_all_ok (FT := []) (PT := []) (CT := t_jMath_min2_v23_ct) (KT := []) (NT := []) (AN := n_jMath_min2_v23_an) (OT := []) 0 200 (List.forall_mem_nil _) (pl_Math rfl (by decide)) ⟨List.forall_mem_nil _, List.forall_mem_nil _, List.forall_mem_nil _, List.forall_mem_nil _, List.forall_mem_nil _, GG_pl⟩ (by decide +kernel)
def e_jMath_min1_v24 : en_T := ([(0, -2147483648, 2147483647, []), (0, -2147483648, 2147483647, [])], some (0, -2147483648, 2147483647, []), true, 1, 0, 0, [], [], (0, [], [], [], []))
def n_jMath_min1_v24_an : List an_T := []
def t_jMath_min1_v24_ct : ct_L := []
set_option maxRecDepth 100000 in
theorem c_jMath_min1_v24 {l : Launch} {D : va_G} {kA : Nat → ClassId} : ct_ok l D kA GG y_jMath_min1 z_jMath_min1 e_jMath_min1_v24 := chk_all_ok (FT := []) (PT := []) (CT := t_jMath_min1_v24_ct) (KT := []) (NT := []) (AN := n_jMath_min1_v24_an) (OT := []) 0 200 (List.forall_mem_nil _) (pl_Math rfl (by decide)) ⟨List.forall_mem_nil _, List.forall_mem_nil _, List.forall_mem_nil _, List.forall_mem_nil _, List.forall_mem_nil _, GG_pl⟩ (by decide +kernel)
def e_jArr_fill1_v25 : en_T := ([(2, 0, 0, [43]), (0, 0, 0, [])], none, false, 1, 0, 0, [], [], (8796093022208, [], [], [], []))
def n_jArr_fill1_v25_an : List an_T := [(5, [(0, (2, 0, 0, [43])), (1, (0, 0, 0, [])), (2, (0, 0, 24, [])), (3, (0, 24, 24, []))], [], (0, 0), [(0, 0, 99995), (1, 2, 24), (0, 0, 100000)], [], [], [], 0, [], [])]
def t_jArr_fill1_v25_ct : ct_L := []
set_option maxRecDepth 100000 in
theorem c_jArr_fill1_v25 {l : Launch} {D : va_G} {kA : Nat → ClassId} : ct_ok l D kA GG y_jArr_fill1 z_jArr_fill1 e_jArr_fill1_v25 := chk_all_ok (FT := []) (PT := []) (CT := t_jArr_fill1_v25_ct) (KT := []) (NT := []) (AN := n_jArr_fill1_v25_an) (OT := []) 3 200 (List.forall_mem_nil _) (by decide +kernel) ⟨List.forall_mem_nil _, List.forall_mem_nil _, List.forall_mem_nil _, List.forall_mem_nil _, List.forall_mem_nil _, GG_pl⟩ (by decide +kernel)
def e_jMath_max1_v26 : en_T := ([(0, -1000000, -1000000, []), (0, -2147483648, 2147483647, [])], some (0, -1000000, 2147483647, []), true, 1, 0, 0, [], [], (0, [], [], [], []))
def n_jMath_max1_v26_an : List an_T := []
def t_jMath_max1_v26_ct : ct_L := []
set_option maxRecDepth 100000 in
theorem c_jMath_max1_v26 {l : Launch} {D : va_G} {kA : Nat → ClassId} : ct_ok l D kA GG y_jMath_max1 z_jMath_max1 e_jMath_max1_v26 := chk_all_ok (FT := []) (PT := []) (CT := t_jMath_max1_v26_ct) (KT := []) (NT := []) (AN := n_jMath_max1_v26_an) (OT := []) 0 200 (List.forall_mem_nil _) (pl_Math rfl (by decide)) ⟨List.forall_mem_nil _, List.forall_mem_nil _, List.forall_mem_nil _, List.forall_mem_nil _, List.forall_mem_nil _, GG_pl⟩ (by decide +kernel)
def e_jMath_max1_v27 : en_T := ([(0, -1000000, 2147483647, []), (0, -2147483648, 2147483647, [])], some (0, -1000000, 2147483647, []), true, 1, 0, 0, [], [], (0, [], [], [], []))
def n_jMath_max1_v27_an : List an_T := []
def t_jMath_max1_v27_ct : ct_L := []
set_option maxRecDepth 100000 in
theorem c_jMath_max1_v27 {l : Launch} {D : va_G} {kA : Nat → ClassId} : ct_ok l D kA GG y_jMath_max1 z_jMath_max1 e_jMath_max1_v27 := chk_all_ok (FT := []) (PT := []) (CT := t_jMath_max1_v27_ct) (KT := []) (NT := []) (AN := n_jMath_max1_v27_an) (OT := []) 0 200 (List.forall_mem_nil _) (pl_Math rfl (by decide)) ⟨List.forall_mem_nil _, List.forall_mem_nil _, List.forall_mem_nil _, List.forall_mem_nil _, List.forall_mem_nil _, GG_pl⟩ (by decide +kernel)
def e_jMath_abs1_v28 : en_T := ([(0, 0, 2147483647, [])], some (0, 0, 2147483647, []), true, 1, 0, 0, [], [], (0, [], [], [], []))
def n_jMath_abs1_v28_an : List an_T := []
def t_jMath_abs1_v28_ct : ct_L := []
set_option maxRecDepth 100000 in
theorem c_jMath_abs1_v28 {l : Launch} {D : va_G} {kA : Nat → ClassId} : ct_ok l D kA GG y_jMath_abs1 z_jMath_abs1 e_jMath_abs1_v28 := chk_all_ok (FT := []) (PT := []) (CT := t_jMath_abs1_v28_ct) (KT := []) (NT := []) (AN := n_jMath_abs1_v28_an) (OT := []) 0 200 (List.forall_mem_nil _) (pl_Math rfl (by decide)) ⟨List.forall_mem_nil _, List.forall_mem_nil _, List.forall_mem_nil _, List.forall_mem_nil _, List.forall_mem_nil _, GG_pl⟩ (by decide +kernel)
def e_jMath_abs1_v29 : en_T := ([(0, -2147483648, -1, [])], some (0, -2147483648, 2147483647, []), true, 1, 0, 0, [], [], (0, [], [], [], []))
def n_jMath_abs1_v29_an : List an_T := []
def t_jMath_abs1_v29_ct : ct_L := []
set_option maxRecDepth 100000 in
theorem c_jMath_abs1_v29 {l : Launch} {D : va_G} {kA : Nat → ClassId} : ct_ok l D kA GG y_jMath_abs1 z_jMath_abs1 e_jMath_abs1_v29 := chk_all_ok (FT := []) (PT := []) (CT := t_jMath_abs1_v29_ct) (KT := []) (NT := []) (AN := n_jMath_abs1_v29_an) (OT := []) 0 200 (List.forall_mem_nil _) (pl_Math rfl (by decide)) ⟨List.forall_mem_nil _, List.forall_mem_nil _, List.forall_mem_nil _, List.forall_mem_nil _, List.forall_mem_nil _, GG_pl⟩ (by decide +kernel)
def e_jMath_max1_v30 : en_T := ([(0, 0, 100000, []), (0, 1, 1, [])], some (0, 1, 100000, []), true, 1, 0, 0, [], [], (0, [], [], [], []))
def n_jMath_max1_v30_an : List an_T := []
def t_jMath_max1_v30_ct : ct_L := []
set_option maxRecDepth 100000 in
theorem c_jMath_max1_v30 {l : Launch} {D : va_G} {kA : Nat → ClassId} : ct_ok l D kA GG y_jMath_max1 z_jMath_max1 e_jMath_max1_v30 := chk_all_ok (FT := []) (PT := []) (CT := t_jMath_max1_v30_ct) (KT := []) (NT := []) (AN := n_jMath_max1_v30_an) (OT := []) 0 200 (List.forall_mem_nil _) (pl_Math rfl (by decide)) ⟨List.forall_mem_nil _, List.forall_mem_nil _, List.forall_mem_nil _, List.forall_mem_nil _, List.forall_mem_nil _, GG_pl⟩ (by decide +kernel)
def e_jMath_max1_v31 : en_T := ([(0, 0, 47, []), (0, -1, 47, [])], some (0, 0, 47, []), true, 1, 0, 0, [], [], (0, [], [], [], []))
def n_jMath_max1_v31_an : List an_T := []
def t_jMath_max1_v31_ct : ct_L := []
set_option maxRecDepth 100000 in
theorem c_jMath_max1_v31 {l : Launch} {D : va_G} {kA : Nat → ClassId} : ct_ok l D kA GG y_jMath_max1 z_jMath_max1 e_jMath_max1_v31 := chk_all_ok (FT := []) (PT := []) (CT := t_jMath_max1_v31_ct) (KT := []) (NT := []) (AN := n_jMath_max1_v31_an) (OT := []) 0 200 (List.forall_mem_nil _) (pl_Math rfl (by decide)) ⟨List.forall_mem_nil _, List.forall_mem_nil _, List.forall_mem_nil _, List.forall_mem_nil _, List.forall_mem_nil _, GG_pl⟩ (by decide +kernel)
def e_jMath_min1_v32 : en_T := ([(0, 0, 47, []), (0, -1, 47, [])], some (0, -1, 47, []), true, 1, 0, 0, [], [], (0, [], [], [], []))
def n_jMath_min1_v32_an : List an_T := []
def t_jMath_min1_v32_ct : ct_L := []
set_option maxRecDepth 100000 in
theorem c_jMath_min1_v32 {l : Launch} {D : va_G} {kA : Nat → ClassId} : ct_ok l D kA GG y_jMath_min1 z_jMath_min1 e_jMath_min1_v32 := chk_all_ok (FT := []) (PT := []) (CT := t_jMath_min1_v32_ct) (KT := []) (NT := []) (AN := n_jMath_min1_v32_an) (OT := []) 0 200 (List.forall_mem_nil _) (pl_Math rfl (by decide)) ⟨List.forall_mem_nil _, List.forall_mem_nil _, List.forall_mem_nil _, List.forall_mem_nil _, List.forall_mem_nil _, GG_pl⟩ (by decide +kernel)
def e_jMath_max1_v33 : en_T := ([(0, 0, 71, []), (0, -1, 71, [])], some (0, 0, 71, []), true, 1, 0, 0, [], [], (0, [], [], [], []))
def n_jMath_max1_v33_an : List an_T := []
def t_jMath_max1_v33_ct : ct_L := []
set_option maxRecDepth 100000 in
theorem c_jMath_max1_v33 {l : Launch} {D : va_G} {kA : Nat → ClassId} : ct_ok l D kA GG y_jMath_max1 z_jMath_max1 e_jMath_max1_v33 := chk_all_ok (FT := []) (PT := []) (CT := t_jMath_max1_v33_ct) (KT := []) (NT := []) (AN := n_jMath_max1_v33_an) (OT := []) 0 200 (List.forall_mem_nil _) (pl_Math rfl (by decide)) ⟨List.forall_mem_nil _, List.forall_mem_nil _, List.forall_mem_nil _, List.forall_mem_nil _, List.forall_mem_nil _, GG_pl⟩ (by decide +kernel)
def e_jMath_min1_v34 : en_T := ([(0, 0, 71, []), (0, -1, 71, [])], some (0, -1, 71, []), true, 1, 0, 0, [], [], (0, [], [], [], []))
def n_jMath_min1_v34_an : List an_T := []
def t_jMath_min1_v34_ct : ct_L := []
set_option maxRecDepth 100000 in
theorem c_jMath_min1_v34 {l : Launch} {D : va_G} {kA : Nat → ClassId} : ct_ok l D kA GG y_jMath_min1 z_jMath_min1 e_jMath_min1_v34 := chk_all_ok (FT := []) (PT := []) (CT := t_jMath_min1_v34_ct) (KT := []) (NT := []) (AN := n_jMath_min1_v34_an) (OT := []) 0 200 (List.forall_mem_nil _) (pl_Math rfl (by decide)) ⟨List.forall_mem_nil _, List.forall_mem_nil _, List.forall_mem_nil _, List.forall_mem_nil _, List.forall_mem_nil _, GG_pl⟩ (by decide +kernel)
def e_jMath_floorDiv1_v37 : en_T := ([(0, 0, 0, []), (0, 2, 2, [])], some (0, 0, 0, []), true, 1, 0, 0, [], [], (0, [], [], [], []))
def n_jMath_floorDiv1_v37_an : List an_T := []
def t_jMath_floorDiv1_v37_ct : ct_L := []
set_option maxRecDepth 100000 in
theorem c_jMath_floorDiv1_v37 {l : Launch} {D : va_G} {kA : Nat → ClassId} : ct_ok l D kA GG y_jMath_floorDiv1 z_jMath_floorDiv1 e_jMath_floorDiv1_v37 := chk_all_ok (FT := []) (PT := []) (CT := t_jMath_floorDiv1_v37_ct) (KT := []) (NT := []) (AN := n_jMath_floorDiv1_v37_an) (OT := []) 0 200 (List.forall_mem_nil _) (pl_Math rfl (by decide)) ⟨List.forall_mem_nil _, List.forall_mem_nil _, List.forall_mem_nil _, List.forall_mem_nil _, List.forall_mem_nil _, GG_pl⟩ (by decide +kernel)
def e_jMath_min1_v38 : en_T := ([(0, 1000000, 1000000, []), (0, -2147483648, 2147483647, [])], some (0, -2147483648, 1000000, []), true, 1, 0, 0, [], [], (0, [], [], [], []))
def n_jMath_min1_v38_an : List an_T := []
def t_jMath_min1_v38_ct : ct_L := []
set_option maxRecDepth 100000 in
theorem c_jMath_min1_v38 {l : Launch} {D : va_G} {kA : Nat → ClassId} : ct_ok l D kA GG y_jMath_min1 z_jMath_min1 e_jMath_min1_v38 := chk_all_ok (FT := []) (PT := []) (CT := t_jMath_min1_v38_ct) (KT := []) (NT := []) (AN := n_jMath_min1_v38_an) (OT := []) 0 200 (List.forall_mem_nil _) (pl_Math rfl (by decide)) ⟨List.forall_mem_nil _, List.forall_mem_nil _, List.forall_mem_nil _, List.forall_mem_nil _, List.forall_mem_nil _, GG_pl⟩ (by decide +kernel)
def e_jMath_floorDiv1_v39 : en_T := ([(0, -2147483648, 2147483647, []), (0, 2, 2, [])], some (0, -2147483648, 2147483647, []), true, 1, 0, 0, [], [], (0, [], [], [], []))
def n_jMath_floorDiv1_v39_an : List an_T := []
def t_jMath_floorDiv1_v39_ct : ct_L := []
set_option maxRecDepth 100000 in
theorem c_jMath_floorDiv1_v39 {l : Launch} {D : va_G} {kA : Nat → ClassId} : ct_ok l D kA GG y_jMath_floorDiv1 z_jMath_floorDiv1 e_jMath_floorDiv1_v39 := chk_all_ok (FT := []) (PT := []) (CT := t_jMath_floorDiv1_v39_ct) (KT := []) (NT := []) (AN := n_jMath_floorDiv1_v39_an) (OT := []) 0 200 (List.forall_mem_nil _) (pl_Math rfl (by decide)) ⟨List.forall_mem_nil _, List.forall_mem_nil _, List.forall_mem_nil _, List.forall_mem_nil _, List.forall_mem_nil _, GG_pl⟩ (by decide +kernel)
def e_jMath_min1_v40 : en_T := ([(0, -2147483648, 1000000, []), (0, -2147483648, 2147483647, [])], some (0, -2147483648, 1000000, []), true, 1, 0, 0, [], [], (0, [], [], [], []))
def n_jMath_min1_v40_an : List an_T := []
def t_jMath_min1_v40_ct : ct_L := []
set_option maxRecDepth 100000 in
theorem c_jMath_min1_v40 {l : Launch} {D : va_G} {kA : Nat → ClassId} : ct_ok l D kA GG y_jMath_min1 z_jMath_min1 e_jMath_min1_v40 := chk_all_ok (FT := []) (PT := []) (CT := t_jMath_min1_v40_ct) (KT := []) (NT := []) (AN := n_jMath_min1_v40_an) (OT := []) 0 200 (List.forall_mem_nil _) (pl_Math rfl (by decide)) ⟨List.forall_mem_nil _, List.forall_mem_nil _, List.forall_mem_nil _, List.forall_mem_nil _, List.forall_mem_nil _, GG_pl⟩ (by decide +kernel)
def e_jMath_min1_v41 : en_T := ([(0, 1000000000, 1000000000, []), (0, -2147483648, 2147483647, [])], some (0, -2147483648, 1000000000, []), true, 1, 0, 0, [], [], (0, [], [], [], []))
def n_jMath_min1_v41_an : List an_T := []
def t_jMath_min1_v41_ct : ct_L := []
set_option maxRecDepth 100000 in
theorem c_jMath_min1_v41 {l : Launch} {D : va_G} {kA : Nat → ClassId} : ct_ok l D kA GG y_jMath_min1 z_jMath_min1 e_jMath_min1_v41 := chk_all_ok (FT := []) (PT := []) (CT := t_jMath_min1_v41_ct) (KT := []) (NT := []) (AN := n_jMath_min1_v41_an) (OT := []) 0 200 (List.forall_mem_nil _) (pl_Math rfl (by decide)) ⟨List.forall_mem_nil _, List.forall_mem_nil _, List.forall_mem_nil _, List.forall_mem_nil _, List.forall_mem_nil _, GG_pl⟩ (by decide +kernel)
def e_jMath_max1_v42 : en_T := ([(0, -1000000000, -1000000000, []), (0, -2147483648, 2147483647, [])], some (0, -1000000000, 2147483647, []), true, 1, 0, 0, [], [], (0, [], [], [], []))
def n_jMath_max1_v42_an : List an_T := []
def t_jMath_max1_v42_ct : ct_L := []
set_option maxRecDepth 100000 in
theorem c_jMath_max1_v42 {l : Launch} {D : va_G} {kA : Nat → ClassId} : ct_ok l D kA GG y_jMath_max1 z_jMath_max1 e_jMath_max1_v42 := chk_all_ok (FT := []) (PT := []) (CT := t_jMath_max1_v42_ct) (KT := []) (NT := []) (AN := n_jMath_max1_v42_an) (OT := []) 0 200 (List.forall_mem_nil _) (pl_Math rfl (by decide)) ⟨List.forall_mem_nil _, List.forall_mem_nil _, List.forall_mem_nil _, List.forall_mem_nil _, List.forall_mem_nil _, GG_pl⟩ (by decide +kernel)
def e_jMath_min1_v43 : en_T := ([(0, -2147483648, 1000000000, []), (0, -2147483648, 2147483647, [])], some (0, -2147483648, 1000000000, []), true, 1, 0, 0, [], [], (0, [], [], [], []))
def n_jMath_min1_v43_an : List an_T := []
def t_jMath_min1_v43_ct : ct_L := []
set_option maxRecDepth 100000 in
theorem c_jMath_min1_v43 {l : Launch} {D : va_G} {kA : Nat → ClassId} : ct_ok l D kA GG y_jMath_min1 z_jMath_min1 e_jMath_min1_v43 := chk_all_ok (FT := []) (PT := []) (CT := t_jMath_min1_v43_ct) (KT := []) (NT := []) (AN := n_jMath_min1_v43_an) (OT := []) 0 200 (List.forall_mem_nil _) (pl_Math rfl (by decide)) ⟨List.forall_mem_nil _, List.forall_mem_nil _, List.forall_mem_nil _, List.forall_mem_nil _, List.forall_mem_nil _, GG_pl⟩ (by decide +kernel)
def e_jMath_max1_v44 : en_T := ([(0, -1000000000, 2147483647, []), (0, -2147483648, 2147483647, [])], some (0, -1000000000, 2147483647, []), true, 1, 0, 0, [], [], (0, [], [], [], []))
def n_jMath_max1_v44_an : List an_T := []
def t_jMath_max1_v44_ct : ct_L := []
set_option maxRecDepth 100000 in
theorem c_jMath_max1_v44 {l : Launch} {D : va_G} {kA : Nat → ClassId} : ct_ok l D kA GG y_jMath_max1 z_jMath_max1 e_jMath_max1_v44 := chk_all_ok (FT := []) (PT := []) (CT := t_jMath_max1_v44_ct) (KT := []) (NT := []) (AN := n_jMath_max1_v44_an) (OT := []) 0 200 (List.forall_mem_nil _) (pl_Math rfl (by decide)) ⟨List.forall_mem_nil _, List.forall_mem_nil _, List.forall_mem_nil _, List.forall_mem_nil _, List.forall_mem_nil _, GG_pl⟩ (by decide +kernel)
def e_jMath_min1_v45 : en_T := ([(0, -2147483648, 1000000000, []), (0, -2147483646, 1000000001, [])], some (0, -2147483648, 1000000000, []), true, 1, 0, 0, [], [], (0, [], [], [], []))
def n_jMath_min1_v45_an : List an_T := []
def t_jMath_min1_v45_ct : ct_L := []
set_option maxRecDepth 100000 in
theorem c_jMath_min1_v45 {l : Launch} {D : va_G} {kA : Nat → ClassId} : ct_ok l D kA GG y_jMath_min1 z_jMath_min1 e_jMath_min1_v45 := chk_all_ok (FT := []) (PT := []) (CT := t_jMath_min1_v45_ct) (KT := []) (NT := []) (AN := n_jMath_min1_v45_an) (OT := []) 0 200 (List.forall_mem_nil _) (pl_Math rfl (by decide)) ⟨List.forall_mem_nil _, List.forall_mem_nil _, List.forall_mem_nil _, List.forall_mem_nil _, List.forall_mem_nil _, GG_pl⟩ (by decide +kernel)
def e_jArr_fill1_v46 : en_T := ([(2, 0, 0, [123]), (0, -1, -1, [])], none, false, 1, 0, 0, [], [], (10633823966279326983230456482242756608, [], [], [], []))
def n_jArr_fill1_v46_an : List an_T := [(5, [(0, (2, 0, 0, [123])), (1, (0, -1, -1, [])), (2, (0, 0, 72, [])), (3, (0, 72, 72, []))], [], (0, 0), [(0, 0, 99995), (1, 2, 72), (0, 0, 100000)], [], [], [], 0, [], [])]
def t_jArr_fill1_v46_ct : ct_L := []
set_option maxRecDepth 100000 in
theorem c_jArr_fill1_v46 {l : Launch} {D : va_G} {kA : Nat → ClassId} : ct_ok l D kA GG y_jArr_fill1 z_jArr_fill1 e_jArr_fill1_v46 := chk_all_ok (FT := []) (PT := []) (CT := t_jArr_fill1_v46_ct) (KT := []) (NT := []) (AN := n_jArr_fill1_v46_an) (OT := []) 3 200 (List.forall_mem_nil _) (by decide +kernel) ⟨List.forall_mem_nil _, List.forall_mem_nil _, List.forall_mem_nil _, List.forall_mem_nil _, List.forall_mem_nil _, GG_pl⟩ (by decide +kernel)
def e_jMath_max2_v47 : en_T := ([(1, -2147483648, 2147483647, []), (1, -2147483648, 2147483647, [])], some (1, -2147483648, 2147483647, []), true, 1, 0, 0, [], [], (0, [], [], [], []))
def n_jMath_max2_v47_an : List an_T := []
def t_jMath_max2_v47_ct : ct_L := []
set_option maxRecDepth 100000 in
theorem c_jMath_max2_v47 {l : Launch} {D : va_G} {kA : Nat → ClassId} : ct_ok l D kA GG y_jMath_max2 z_jMath_max2 e_jMath_max2_v47 := chk_all_ok (FT := []) (PT := []) (CT := t_jMath_max2_v47_ct) (KT := []) (NT := []) (AN := n_jMath_max2_v47_an) (OT := []) 0 200 (List.forall_mem_nil _) (pl_Math rfl (by decide)) ⟨List.forall_mem_nil _, List.forall_mem_nil _, List.forall_mem_nil _, List.forall_mem_nil _, List.forall_mem_nil _, GG_pl⟩ (by decide +kernel)
def e_jMath_min2_v48 : en_T := ([(1, -2147483648, 2147483647, []), (1, -2147483648, 2147483647, [])], some (1, -2147483648, 2147483647, []), true, 1, 0, 0, [], [], (0, [], [], [], []))
def n_jMath_min2_v48_an : List an_T := []
def t_jMath_min2_v48_ct : ct_L := []
set_option maxRecDepth 100000 in
theorem c_jMath_min2_v48 {l : Launch} {D : va_G} {kA : Nat → ClassId} : ct_ok l D kA GG y_jMath_min2 z_jMath_min2 e_jMath_min2_v48 := chk_all_ok (FT := []) (PT := []) (CT := t_jMath_min2_v48_ct) (KT := []) (NT := []) (AN := n_jMath_min2_v48_an) (OT := []) 0 200 (List.forall_mem_nil _) (pl_Math rfl (by decide)) ⟨List.forall_mem_nil _, List.forall_mem_nil _, List.forall_mem_nil _, List.forall_mem_nil _, List.forall_mem_nil _, GG_pl⟩ (by decide +kernel)
def e_jMath_max2_v49 : en_T := ([(1, -9223372036854775808, 9223372036854775807, []), (1, -9223372036854775808, 9223372036854775807, [])], some (1, -9223372036854775808, 9223372036854775807, []), true, 1, 0, 0, [], [], (0, [], [], [], []))
def n_jMath_max2_v49_an : List an_T := []
def t_jMath_max2_v49_ct : ct_L := []
set_option maxRecDepth 100000 in
theorem c_jMath_max2_v49 {l : Launch} {D : va_G} {kA : Nat → ClassId} : ct_ok l D kA GG y_jMath_max2 z_jMath_max2 e_jMath_max2_v49 := chk_all_ok (FT := []) (PT := []) (CT := t_jMath_max2_v49_ct) (KT := []) (NT := []) (AN := n_jMath_max2_v49_an) (OT := []) 0 200 (List.forall_mem_nil _) (pl_Math rfl (by decide)) ⟨List.forall_mem_nil _, List.forall_mem_nil _, List.forall_mem_nil _, List.forall_mem_nil _, List.forall_mem_nil _, GG_pl⟩ (by decide +kernel)
def e_jMath_min2_v50 : en_T := ([(1, -9223372036854775808, 9223372036854775807, []), (1, -9223372036854775808, 9223372036854775807, [])], some (1, -9223372036854775808, 9223372036854775807, []), true, 1, 0, 0, [], [], (0, [], [], [], []))
def n_jMath_min2_v50_an : List an_T := []
def t_jMath_min2_v50_ct : ct_L := []
set_option maxRecDepth 100000 in
theorem c_jMath_min2_v50 {l : Launch} {D : va_G} {kA : Nat → ClassId} : ct_ok l D kA GG y_jMath_min2 z_jMath_min2 e_jMath_min2_v50 := chk_all_ok (FT := []) (PT := []) (CT := t_jMath_min2_v50_ct) (KT := []) (NT := []) (AN := n_jMath_min2_v50_an) (OT := []) 0 200 (List.forall_mem_nil _) (pl_Math rfl (by decide)) ⟨List.forall_mem_nil _, List.forall_mem_nil _, List.forall_mem_nil _, List.forall_mem_nil _, List.forall_mem_nil _, GG_pl⟩ (by decide +kernel)
def e_jMath_max1_v51 : en_T := ([(0, -1, -1, []), (0, 0, 0, [])], some (0, 0, 0, []), true, 1, 0, 0, [], [], (0, [], [], [], []))
def n_jMath_max1_v51_an : List an_T := []
def t_jMath_max1_v51_ct : ct_L := []
set_option maxRecDepth 100000 in
theorem c_jMath_max1_v51 {l : Launch} {D : va_G} {kA : Nat → ClassId} : ct_ok l D kA GG y_jMath_max1 z_jMath_max1 e_jMath_max1_v51 := chk_all_ok (FT := []) (PT := []) (CT := t_jMath_max1_v51_ct) (KT := []) (NT := []) (AN := n_jMath_max1_v51_an) (OT := []) 0 200 (List.forall_mem_nil _) (pl_Math rfl (by decide)) ⟨List.forall_mem_nil _, List.forall_mem_nil _, List.forall_mem_nil _, List.forall_mem_nil _, List.forall_mem_nil _, GG_pl⟩ (by decide +kernel)
def e_jMath_max1_v52 : en_T := ([(0, -1, 0, []), (0, 0, 0, [])], some (0, 0, 0, []), true, 1, 0, 0, [], [], (0, [], [], [], []))
def n_jMath_max1_v52_an : List an_T := []
def t_jMath_max1_v52_ct : ct_L := []
set_option maxRecDepth 100000 in
theorem c_jMath_max1_v52 {l : Launch} {D : va_G} {kA : Nat → ClassId} : ct_ok l D kA GG y_jMath_max1 z_jMath_max1 e_jMath_max1_v52 := chk_all_ok (FT := []) (PT := []) (CT := t_jMath_max1_v52_ct) (KT := []) (NT := []) (AN := n_jMath_max1_v52_an) (OT := []) 0 200 (List.forall_mem_nil _) (pl_Math rfl (by decide)) ⟨List.forall_mem_nil _, List.forall_mem_nil _, List.forall_mem_nil _, List.forall_mem_nil _, List.forall_mem_nil _, GG_pl⟩ (by decide +kernel)
def e_jMath_max1_v53 : en_T := ([(0, -1, 1, []), (0, 0, 0, [])], some (0, 0, 1, []), true, 1, 0, 0, [], [], (0, [], [], [], []))
def n_jMath_max1_v53_an : List an_T := []
def t_jMath_max1_v53_ct : ct_L := []
set_option maxRecDepth 100000 in
theorem c_jMath_max1_v53 {l : Launch} {D : va_G} {kA : Nat → ClassId} : ct_ok l D kA GG y_jMath_max1 z_jMath_max1 e_jMath_max1_v53 := chk_all_ok (FT := []) (PT := []) (CT := t_jMath_max1_v53_ct) (KT := []) (NT := []) (AN := n_jMath_max1_v53_an) (OT := []) 0 200 (List.forall_mem_nil _) (pl_Math rfl (by decide)) ⟨List.forall_mem_nil _, List.forall_mem_nil _, List.forall_mem_nil _, List.forall_mem_nil _, List.forall_mem_nil _, GG_pl⟩ (by decide +kernel)
def e_jMath_max1_v54 : en_T := ([(0, -1, 2, []), (0, 0, 0, [])], some (0, 0, 2, []), true, 1, 0, 0, [], [], (0, [], [], [], []))
def n_jMath_max1_v54_an : List an_T := []
def t_jMath_max1_v54_ct : ct_L := []
set_option maxRecDepth 100000 in
theorem c_jMath_max1_v54 {l : Launch} {D : va_G} {kA : Nat → ClassId} : ct_ok l D kA GG y_jMath_max1 z_jMath_max1 e_jMath_max1_v54 := chk_all_ok (FT := []) (PT := []) (CT := t_jMath_max1_v54_ct) (KT := []) (NT := []) (AN := n_jMath_max1_v54_an) (OT := []) 0 200 (List.forall_mem_nil _) (pl_Math rfl (by decide)) ⟨List.forall_mem_nil _, List.forall_mem_nil _, List.forall_mem_nil _, List.forall_mem_nil _, List.forall_mem_nil _, GG_pl⟩ (by decide +kernel)
def e_jMath_max1_v55 : en_T := ([(0, -1, 3, []), (0, 0, 0, [])], some (0, 0, 3, []), true, 1, 0, 0, [], [], (0, [], [], [], []))
def n_jMath_max1_v55_an : List an_T := []
def t_jMath_max1_v55_ct : ct_L := []
set_option maxRecDepth 100000 in
theorem c_jMath_max1_v55 {l : Launch} {D : va_G} {kA : Nat → ClassId} : ct_ok l D kA GG y_jMath_max1 z_jMath_max1 e_jMath_max1_v55 := chk_all_ok (FT := []) (PT := []) (CT := t_jMath_max1_v55_ct) (KT := []) (NT := []) (AN := n_jMath_max1_v55_an) (OT := []) 0 200 (List.forall_mem_nil _) (pl_Math rfl (by decide)) ⟨List.forall_mem_nil _, List.forall_mem_nil _, List.forall_mem_nil _, List.forall_mem_nil _, List.forall_mem_nil _, GG_pl⟩ (by decide +kernel)
def e_jMath_max1_v56 : en_T := ([(0, -1, 4, []), (0, 0, 0, [])], some (0, 0, 4, []), true, 1, 0, 0, [], [], (0, [], [], [], []))
def n_jMath_max1_v56_an : List an_T := []
def t_jMath_max1_v56_ct : ct_L := []
set_option maxRecDepth 100000 in
theorem c_jMath_max1_v56 {l : Launch} {D : va_G} {kA : Nat → ClassId} : ct_ok l D kA GG y_jMath_max1 z_jMath_max1 e_jMath_max1_v56 := chk_all_ok (FT := []) (PT := []) (CT := t_jMath_max1_v56_ct) (KT := []) (NT := []) (AN := n_jMath_max1_v56_an) (OT := []) 0 200 (List.forall_mem_nil _) (pl_Math rfl (by decide)) ⟨List.forall_mem_nil _, List.forall_mem_nil _, List.forall_mem_nil _, List.forall_mem_nil _, List.forall_mem_nil _, GG_pl⟩ (by decide +kernel)
def e_jMath_max1_v57 : en_T := ([(0, -1, 7, []), (0, 0, 0, [])], some (0, 0, 7, []), true, 1, 0, 0, [], [], (0, [], [], [], []))
def n_jMath_max1_v57_an : List an_T := []
def t_jMath_max1_v57_ct : ct_L := []
set_option maxRecDepth 100000 in
theorem c_jMath_max1_v57 {l : Launch} {D : va_G} {kA : Nat → ClassId} : ct_ok l D kA GG y_jMath_max1 z_jMath_max1 e_jMath_max1_v57 := chk_all_ok (FT := []) (PT := []) (CT := t_jMath_max1_v57_ct) (KT := []) (NT := []) (AN := n_jMath_max1_v57_an) (OT := []) 0 200 (List.forall_mem_nil _) (pl_Math rfl (by decide)) ⟨List.forall_mem_nil _, List.forall_mem_nil _, List.forall_mem_nil _, List.forall_mem_nil _, List.forall_mem_nil _, GG_pl⟩ (by decide +kernel)
def e_jMath_max1_v58 : en_T := ([(0, -1, 8, []), (0, 0, 0, [])], some (0, 0, 8, []), true, 1, 0, 0, [], [], (0, [], [], [], []))
def n_jMath_max1_v58_an : List an_T := []
def t_jMath_max1_v58_ct : ct_L := []
set_option maxRecDepth 100000 in
theorem c_jMath_max1_v58 {l : Launch} {D : va_G} {kA : Nat → ClassId} : ct_ok l D kA GG y_jMath_max1 z_jMath_max1 e_jMath_max1_v58 := chk_all_ok (FT := []) (PT := []) (CT := t_jMath_max1_v58_ct) (KT := []) (NT := []) (AN := n_jMath_max1_v58_an) (OT := []) 0 200 (List.forall_mem_nil _) (pl_Math rfl (by decide)) ⟨List.forall_mem_nil _, List.forall_mem_nil _, List.forall_mem_nil _, List.forall_mem_nil _, List.forall_mem_nil _, GG_pl⟩ (by decide +kernel)
def e_jMath_max1_v59 : en_T := ([(0, -1, 15, []), (0, 0, 0, [])], some (0, 0, 15, []), true, 1, 0, 0, [], [], (0, [], [], [], []))
def n_jMath_max1_v59_an : List an_T := []
def t_jMath_max1_v59_ct : ct_L := []
set_option maxRecDepth 100000 in
theorem c_jMath_max1_v59 {l : Launch} {D : va_G} {kA : Nat → ClassId} : ct_ok l D kA GG y_jMath_max1 z_jMath_max1 e_jMath_max1_v59 := chk_all_ok (FT := []) (PT := []) (CT := t_jMath_max1_v59_ct) (KT := []) (NT := []) (AN := n_jMath_max1_v59_an) (OT := []) 0 200 (List.forall_mem_nil _) (pl_Math rfl (by decide)) ⟨List.forall_mem_nil _, List.forall_mem_nil _, List.forall_mem_nil _, List.forall_mem_nil _, List.forall_mem_nil _, GG_pl⟩ (by decide +kernel)
def e_jMath_max1_v60 : en_T := ([(0, -1, 16, []), (0, 0, 0, [])], some (0, 0, 16, []), true, 1, 0, 0, [], [], (0, [], [], [], []))
def n_jMath_max1_v60_an : List an_T := []
def t_jMath_max1_v60_ct : ct_L := []
set_option maxRecDepth 100000 in
theorem c_jMath_max1_v60 {l : Launch} {D : va_G} {kA : Nat → ClassId} : ct_ok l D kA GG y_jMath_max1 z_jMath_max1 e_jMath_max1_v60 := chk_all_ok (FT := []) (PT := []) (CT := t_jMath_max1_v60_ct) (KT := []) (NT := []) (AN := n_jMath_max1_v60_an) (OT := []) 0 200 (List.forall_mem_nil _) (pl_Math rfl (by decide)) ⟨List.forall_mem_nil _, List.forall_mem_nil _, List.forall_mem_nil _, List.forall_mem_nil _, List.forall_mem_nil _, GG_pl⟩ (by decide +kernel)
def e_jMath_max1_v61 : en_T := ([(0, -1, 23, []), (0, 0, 0, [])], some (0, 0, 23, []), true, 1, 0, 0, [], [], (0, [], [], [], []))
def n_jMath_max1_v61_an : List an_T := []
def t_jMath_max1_v61_ct : ct_L := []
set_option maxRecDepth 100000 in
theorem c_jMath_max1_v61 {l : Launch} {D : va_G} {kA : Nat → ClassId} : ct_ok l D kA GG y_jMath_max1 z_jMath_max1 e_jMath_max1_v61 := chk_all_ok (FT := []) (PT := []) (CT := t_jMath_max1_v61_ct) (KT := []) (NT := []) (AN := n_jMath_max1_v61_an) (OT := []) 0 200 (List.forall_mem_nil _) (pl_Math rfl (by decide)) ⟨List.forall_mem_nil _, List.forall_mem_nil _, List.forall_mem_nil _, List.forall_mem_nil _, List.forall_mem_nil _, GG_pl⟩ (by decide +kernel)
def e_jMath_abs2_v62 : en_T := ([(1, -4294967295, 4294967295, [])], some (1, 0, 4294967295, []), true, 1, 0, 0, [], [], (0, [], [], [], []))
def n_jMath_abs2_v62_an : List an_T := []
def t_jMath_abs2_v62_ct : ct_L := []
set_option maxRecDepth 100000 in
theorem c_jMath_abs2_v62 {l : Launch} {D : va_G} {kA : Nat → ClassId} : ct_ok l D kA GG y_jMath_abs2 z_jMath_abs2 e_jMath_abs2_v62 := chk_all_ok (FT := []) (PT := []) (CT := t_jMath_abs2_v62_ct) (KT := []) (NT := []) (AN := n_jMath_abs2_v62_an) (OT := []) 0 200 (List.forall_mem_nil _) (pl_Math rfl (by decide)) ⟨List.forall_mem_nil _, List.forall_mem_nil _, List.forall_mem_nil _, List.forall_mem_nil _, List.forall_mem_nil _, GG_pl⟩ (by decide +kernel)
def e_jArr_fill1_v63 : en_T := ([(2, 0, 0, [269]), (0, -1, -1, [])], none, false, 1, 0, 0, [], [], (948568795032094272909893509191171341133987714380927500611236528192824358010355712, [], [], [], []))
def n_jArr_fill1_v63_an : List an_T := [(5, [(0, (2, 0, 0, [269])), (1, (0, -1, -1, [])), (2, (0, 0, 24, [])), (3, (0, 24, 24, []))], [], (0, 0), [(0, 0, 99995), (1, 2, 24), (0, 0, 100000)], [], [], [], 0, [], [])]
def t_jArr_fill1_v63_ct : ct_L := []
set_option maxRecDepth 100000 in
theorem c_jArr_fill1_v63 {l : Launch} {D : va_G} {kA : Nat → ClassId} : ct_ok l D kA GG y_jArr_fill1 z_jArr_fill1 e_jArr_fill1_v63 := chk_all_ok (FT := []) (PT := []) (CT := t_jArr_fill1_v63_ct) (KT := []) (NT := []) (AN := n_jArr_fill1_v63_an) (OT := []) 3 200 (List.forall_mem_nil _) (by decide +kernel) ⟨List.forall_mem_nil _, List.forall_mem_nil _, List.forall_mem_nil _, List.forall_mem_nil _, List.forall_mem_nil _, GG_pl⟩ (by decide +kernel)
def e_jMath_min1_v64 : en_T := ([(0, -176, 79, []), (0, 1000000, 1000000, [])], some (0, -176, 79, []), true, 1, 0, 0, [], [], (0, [], [], [], []))
def n_jMath_min1_v64_an : List an_T := []
def t_jMath_min1_v64_ct : ct_L := []
set_option maxRecDepth 100000 in
theorem c_jMath_min1_v64 {l : Launch} {D : va_G} {kA : Nat → ClassId} : ct_ok l D kA GG y_jMath_min1 z_jMath_min1 e_jMath_min1_v64 := chk_all_ok (FT := []) (PT := []) (CT := t_jMath_min1_v64_ct) (KT := []) (NT := []) (AN := n_jMath_min1_v64_an) (OT := []) 0 200 (List.forall_mem_nil _) (pl_Math rfl (by decide)) ⟨List.forall_mem_nil _, List.forall_mem_nil _, List.forall_mem_nil _, List.forall_mem_nil _, List.forall_mem_nil _, GG_pl⟩ (by decide +kernel)
def e_jMath_min1_v65 : en_T := ([(0, -1936, 869, []), (0, 1000000, 1000000, [])], some (0, -1936, 869, []), true, 1, 0, 0, [], [], (0, [], [], [], []))
def n_jMath_min1_v65_an : List an_T := []
def t_jMath_min1_v65_ct : ct_L := []
set_option maxRecDepth 100000 in
theorem c_jMath_min1_v65 {l : Launch} {D : va_G} {kA : Nat → ClassId} : ct_ok l D kA GG y_jMath_min1 z_jMath_min1 e_jMath_min1_v65 := chk_all_ok (FT := []) (PT := []) (CT := t_jMath_min1_v65_ct) (KT := []) (NT := []) (AN := n_jMath_min1_v65_an) (OT := []) 0 200 (List.forall_mem_nil _) (pl_Math rfl (by decide)) ⟨List.forall_mem_nil _, List.forall_mem_nil _, List.forall_mem_nil _, List.forall_mem_nil _, List.forall_mem_nil _, GG_pl⟩ (by decide +kernel)
def e_jMath_min1_v66 : en_T := ([(0, -19536, 8769, []), (0, 1000000, 1000000, [])], some (0, -19536, 8769, []), true, 1, 0, 0, [], [], (0, [], [], [], []))
def n_jMath_min1_v66_an : List an_T := []
def t_jMath_min1_v66_ct : ct_L := []
set_option maxRecDepth 100000 in
theorem c_jMath_min1_v66 {l : Launch} {D : va_G} {kA : Nat → ClassId} : ct_ok l D kA GG y_jMath_min1 z_jMath_min1 e_jMath_min1_v66 := chk_all_ok (FT := []) (PT := []) (CT := t_jMath_min1_v66_ct) (KT := []) (NT := []) (AN := n_jMath_min1_v66_an) (OT := []) 0 200 (List.forall_mem_nil _) (pl_Math rfl (by decide)) ⟨List.forall_mem_nil _, List.forall_mem_nil _, List.forall_mem_nil _, List.forall_mem_nil _, List.forall_mem_nil _, GG_pl⟩ (by decide +kernel)
def e_jMath_min1_v67 : en_T := ([(0, -195536, 87769, []), (0, 1000000, 1000000, [])], some (0, -195536, 87769, []), true, 1, 0, 0, [], [], (0, [], [], [], []))
def n_jMath_min1_v67_an : List an_T := []
def t_jMath_min1_v67_ct : ct_L := []
set_option maxRecDepth 100000 in
theorem c_jMath_min1_v67 {l : Launch} {D : va_G} {kA : Nat → ClassId} : ct_ok l D kA GG y_jMath_min1 z_jMath_min1 e_jMath_min1_v67 := chk_all_ok (FT := []) (PT := []) (CT := t_jMath_min1_v67_ct) (KT := []) (NT := []) (AN := n_jMath_min1_v67_an) (OT := []) 0 200 (List.forall_mem_nil _) (pl_Math rfl (by decide)) ⟨List.forall_mem_nil _, List.forall_mem_nil _, List.forall_mem_nil _, List.forall_mem_nil _, List.forall_mem_nil _, GG_pl⟩ (by decide +kernel)
def e_jMath_min1_v68 : en_T := ([(0, -2147483648, 2147483647, []), (0, 1000000, 1000000, [])], some (0, -2147483648, 1000000, []), true, 1, 0, 0, [], [], (0, [], [], [], []))
def n_jMath_min1_v68_an : List an_T := []
def t_jMath_min1_v68_ct : ct_L := []
set_option maxRecDepth 100000 in
theorem c_jMath_min1_v68 {l : Launch} {D : va_G} {kA : Nat → ClassId} : ct_ok l D kA GG y_jMath_min1 z_jMath_min1 e_jMath_min1_v68 := chk_all_ok (FT := []) (PT := []) (CT := t_jMath_min1_v68_ct) (KT := []) (NT := []) (AN := n_jMath_min1_v68_an) (OT := []) 0 200 (List.forall_mem_nil _) (pl_Math rfl (by decide)) ⟨List.forall_mem_nil _, List.forall_mem_nil _, List.forall_mem_nil _, List.forall_mem_nil _, List.forall_mem_nil _, GG_pl⟩ (by decide +kernel)
def e_jArr_fill1_v69 : en_T := ([(2, 0, 0, [122]), (0, 0, 0, [])], none, false, 1, 0, 0, [], [], (5316911983139663491615228241121378304, [], [], [], []))
def n_jArr_fill1_v69_an : List an_T := [(5, [(0, (2, 0, 0, [122])), (1, (0, 0, 0, [])), (2, (0, 0, 72, [])), (3, (0, 72, 72, []))], [], (0, 0), [(0, 0, 99995), (1, 2, 72), (0, 0, 100000)], [], [], [], 0, [], [])]
def t_jArr_fill1_v69_ct : ct_L := []
set_option maxRecDepth 100000 in
theorem c_jArr_fill1_v69 {l : Launch} {D : va_G} {kA : Nat → ClassId} : ct_ok l D kA GG y_jArr_fill1 z_jArr_fill1 e_jArr_fill1_v69 := chk_all_ok (FT := []) (PT := []) (CT := t_jArr_fill1_v69_ct) (KT := []) (NT := []) (AN := n_jArr_fill1_v69_an) (OT := []) 3 200 (List.forall_mem_nil _) (by decide +kernel) ⟨List.forall_mem_nil _, List.forall_mem_nil _, List.forall_mem_nil _, List.forall_mem_nil _, List.forall_mem_nil _, GG_pl⟩ (by decide +kernel)
def e_jMath_floorDiv2_v70 : en_T := ([(1, -9223372036854775808, 9223372036854775807, []), (1, 16, 16, [])], some (1, -9223372036854775808, 9223372036854775807, []), true, 1, 0, 0, [], [], (0, [], [], [], []))
def n_jMath_floorDiv2_v70_an : List an_T := []
def t_jMath_floorDiv2_v70_ct : ct_L := []
set_option maxRecDepth 100000 in
theorem c_jMath_floorDiv2_v70 {l : Launch} {D : va_G} {kA : Nat → ClassId} : ct_ok l D kA GG y_jMath_floorDiv2 z_jMath_floorDiv2 e_jMath_floorDiv2_v70 := chk_all_ok (FT := []) (PT := []) (CT := t_jMath_floorDiv2_v70_ct) (KT := []) (NT := []) (AN := n_jMath_floorDiv2_v70_an) (OT := []) 0 200 (List.forall_mem_nil _) (pl_Math rfl (by decide)) ⟨List.forall_mem_nil _, List.forall_mem_nil _, List.forall_mem_nil _, List.forall_mem_nil _, List.forall_mem_nil _, GG_pl⟩ (by decide +kernel)
def e_jMath_min2_v71 : en_T := ([(1, 0, 256, []), (1, -9223372036854775808, 9223372036854775807, [])], some (1, -9223372036854775808, 256, []), true, 1, 0, 0, [], [], (0, [], [], [], []))
def n_jMath_min2_v71_an : List an_T := []
def t_jMath_min2_v71_ct : ct_L := []
set_option maxRecDepth 100000 in
theorem c_jMath_min2_v71 {l : Launch} {D : va_G} {kA : Nat → ClassId} : ct_ok l D kA GG y_jMath_min2 z_jMath_min2 e_jMath_min2_v71 := chk_all_ok (FT := []) (PT := []) (CT := t_jMath_min2_v71_ct) (KT := []) (NT := []) (AN := n_jMath_min2_v71_an) (OT := []) 0 200 (List.forall_mem_nil _) (pl_Math rfl (by decide)) ⟨List.forall_mem_nil _, List.forall_mem_nil _, List.forall_mem_nil _, List.forall_mem_nil _, List.forall_mem_nil _, GG_pl⟩ (by decide +kernel)
def e_jMath_max2_v72 : en_T := ([(1, -256, 0, []), (1, -9223372036854775808, 256, [])], some (1, -256, 256, []), true, 1, 0, 0, [], [], (0, [], [], [], []))
def n_jMath_max2_v72_an : List an_T := []
def t_jMath_max2_v72_ct : ct_L := []
set_option maxRecDepth 100000 in
theorem c_jMath_max2_v72 {l : Launch} {D : va_G} {kA : Nat → ClassId} : ct_ok l D kA GG y_jMath_max2 z_jMath_max2 e_jMath_max2_v72 := chk_all_ok (FT := []) (PT := []) (CT := t_jMath_max2_v72_ct) (KT := []) (NT := []) (AN := n_jMath_max2_v72_an) (OT := []) 0 200 (List.forall_mem_nil _) (pl_Math rfl (by decide)) ⟨List.forall_mem_nil _, List.forall_mem_nil _, List.forall_mem_nil _, List.forall_mem_nil _, List.forall_mem_nil _, GG_pl⟩ (by decide +kernel)
def e_jMath_floorDiv1_v73 : en_T := ([(0, -1000001, 999999, []), (0, 2, 2, [])], some (0, -1000002, 999999, []), true, 1, 0, 0, [], [], (0, [], [], [], []))
def n_jMath_floorDiv1_v73_an : List an_T := []
def t_jMath_floorDiv1_v73_ct : ct_L := []
set_option maxRecDepth 100000 in
theorem c_jMath_floorDiv1_v73 {l : Launch} {D : va_G} {kA : Nat → ClassId} : ct_ok l D kA GG y_jMath_floorDiv1 z_jMath_floorDiv1 e_jMath_floorDiv1_v73 := chk_all_ok (FT := []) (PT := []) (CT := t_jMath_floorDiv1_v73_ct) (KT := []) (NT := []) (AN := n_jMath_floorDiv1_v73_an) (OT := []) 0 200 (List.forall_mem_nil _) (pl_Math rfl (by decide)) ⟨List.forall_mem_nil _, List.forall_mem_nil _, List.forall_mem_nil _, List.forall_mem_nil _, List.forall_mem_nil _, GG_pl⟩ (by decide +kernel)
def e_jMath_floorDiv1_v74 : en_T := ([(0, -2000000, 2000000, []), (0, 2, 2, [])], some (0, -2000001, 2000000, []), true, 1, 0, 0, [], [], (0, [], [], [], []))
def n_jMath_floorDiv1_v74_an : List an_T := []
def t_jMath_floorDiv1_v74_ct : ct_L := []
set_option maxRecDepth 100000 in
theorem c_jMath_floorDiv1_v74 {l : Launch} {D : va_G} {kA : Nat → ClassId} : ct_ok l D kA GG y_jMath_floorDiv1 z_jMath_floorDiv1 e_jMath_floorDiv1_v74 := chk_all_ok (FT := []) (PT := []) (CT := t_jMath_floorDiv1_v74_ct) (KT := []) (NT := []) (AN := n_jMath_floorDiv1_v74_an) (OT := []) 0 200 (List.forall_mem_nil _) (pl_Math rfl (by decide)) ⟨List.forall_mem_nil _, List.forall_mem_nil _, List.forall_mem_nil _, List.forall_mem_nil _, List.forall_mem_nil _, GG_pl⟩ (by decide +kernel)
def e_jMath_min1_v75 : en_T := ([(0, 0, 0, []), (0, 0, 0, [])], some (0, 0, 0, []), true, 1, 0, 0, [], [], (0, [], [], [], []))
def n_jMath_min1_v75_an : List an_T := []
def t_jMath_min1_v75_ct : ct_L := []
set_option maxRecDepth 100000 in
theorem c_jMath_min1_v75 {l : Launch} {D : va_G} {kA : Nat → ClassId} : ct_ok l D kA GG y_jMath_min1 z_jMath_min1 e_jMath_min1_v75 := chk_all_ok (FT := []) (PT := []) (CT := t_jMath_min1_v75_ct) (KT := []) (NT := []) (AN := n_jMath_min1_v75_an) (OT := []) 0 200 (List.forall_mem_nil _) (pl_Math rfl (by decide)) ⟨List.forall_mem_nil _, List.forall_mem_nil _, List.forall_mem_nil _, List.forall_mem_nil _, List.forall_mem_nil _, GG_pl⟩ (by decide +kernel)
def e_jMath_max1_v76 : en_T := ([(0, 0, 0, []), (0, 0, 0, [])], some (0, 0, 0, []), true, 1, 0, 0, [], [], (0, [], [], [], []))
def n_jMath_max1_v76_an : List an_T := []
def t_jMath_max1_v76_ct : ct_L := []
set_option maxRecDepth 100000 in
theorem c_jMath_max1_v76 {l : Launch} {D : va_G} {kA : Nat → ClassId} : ct_ok l D kA GG y_jMath_max1 z_jMath_max1 e_jMath_max1_v76 := chk_all_ok (FT := []) (PT := []) (CT := t_jMath_max1_v76_ct) (KT := []) (NT := []) (AN := n_jMath_max1_v76_an) (OT := []) 0 200 (List.forall_mem_nil _) (pl_Math rfl (by decide)) ⟨List.forall_mem_nil _, List.forall_mem_nil _, List.forall_mem_nil _, List.forall_mem_nil _, List.forall_mem_nil _, GG_pl⟩ (by decide +kernel)
def e_jMath_min1_v77 : en_T := ([(0, 0, 32, []), (0, 0, 8, [])], some (0, 0, 8, []), true, 1, 0, 0, [], [], (0, [], [], [], []))
def n_jMath_min1_v77_an : List an_T := []
def t_jMath_min1_v77_ct : ct_L := []
set_option maxRecDepth 100000 in
theorem c_jMath_min1_v77 {l : Launch} {D : va_G} {kA : Nat → ClassId} : ct_ok l D kA GG y_jMath_min1 z_jMath_min1 e_jMath_min1_v77 := chk_all_ok (FT := []) (PT := []) (CT := t_jMath_min1_v77_ct) (KT := []) (NT := []) (AN := n_jMath_min1_v77_an) (OT := []) 0 200 (List.forall_mem_nil _) (pl_Math rfl (by decide)) ⟨List.forall_mem_nil _, List.forall_mem_nil _, List.forall_mem_nil _, List.forall_mem_nil _, List.forall_mem_nil _, GG_pl⟩ (by decide +kernel)
def e_jMath_min1_v78 : en_T := ([(0, 0, 8, []), (0, -32, 24, [])], some (0, -32, 8, []), true, 1, 0, 0, [], [], (0, [], [], [], []))
def n_jMath_min1_v78_an : List an_T := []
def t_jMath_min1_v78_ct : ct_L := []
set_option maxRecDepth 100000 in
theorem c_jMath_min1_v78 {l : Launch} {D : va_G} {kA : Nat → ClassId} : ct_ok l D kA GG y_jMath_min1 z_jMath_min1 e_jMath_min1_v78 := chk_all_ok (FT := []) (PT := []) (CT := t_jMath_min1_v78_ct) (KT := []) (NT := []) (AN := n_jMath_min1_v78_an) (OT := []) 0 200 (List.forall_mem_nil _) (pl_Math rfl (by decide)) ⟨List.forall_mem_nil _, List.forall_mem_nil _, List.forall_mem_nil _, List.forall_mem_nil _, List.forall_mem_nil _, GG_pl⟩ (by decide +kernel)
def e_jMath_max1_v79 : en_T := ([(0, 0, 0, []), (0, -32, 8, [])], some (0, 0, 8, []), true, 1, 0, 0, [], [], (0, [], [], [], []))
def n_jMath_max1_v79_an : List an_T := []
def t_jMath_max1_v79_ct : ct_L := []
set_option maxRecDepth 100000 in
theorem c_jMath_max1_v79 {l : Launch} {D : va_G} {kA : Nat → ClassId} : ct_ok l D kA GG y_jMath_max1 z_jMath_max1 e_jMath_max1_v79 := chk_all_ok (FT := []) (PT := []) (CT := t_jMath_max1_v79_ct) (KT := []) (NT := []) (AN := n_jMath_max1_v79_an) (OT := []) 0 200 (List.forall_mem_nil _) (pl_Math rfl (by decide)) ⟨List.forall_mem_nil _, List.forall_mem_nil _, List.forall_mem_nil _, List.forall_mem_nil _, List.forall_mem_nil _, GG_pl⟩ (by decide +kernel)
def e_jMath_min1_v80 : en_T := ([(0, -8, 32, []), (0, 0, 8, [])], some (0, -8, 8, []), true, 1, 0, 0, [], [], (0, [], [], [], []))
def n_jMath_min1_v80_an : List an_T := []
def t_jMath_min1_v80_ct : ct_L := []
set_option maxRecDepth 100000 in
theorem c_jMath_min1_v80 {l : Launch} {D : va_G} {kA : Nat → ClassId} : ct_ok l D kA GG y_jMath_min1 z_jMath_min1 e_jMath_min1_v80 := chk_all_ok (FT := []) (PT := []) (CT := t_jMath_min1_v80_ct) (KT := []) (NT := []) (AN := n_jMath_min1_v80_an) (OT := []) 0 200 (List.forall_mem_nil _) (pl_Math rfl (by decide)) ⟨List.forall_mem_nil _, List.forall_mem_nil _, List.forall_mem_nil _, List.forall_mem_nil _, List.forall_mem_nil _, GG_pl⟩ (by decide +kernel)
def e_jMath_min1_v81 : en_T := ([(0, -8, 8, []), (0, -32, 32, [])], some (0, -32, 8, []), true, 1, 0, 0, [], [], (0, [], [], [], []))
def n_jMath_min1_v81_an : List an_T := []
def t_jMath_min1_v81_ct : ct_L := []
set_option maxRecDepth 100000 in
theorem c_jMath_min1_v81 {l : Launch} {D : va_G} {kA : Nat → ClassId} : ct_ok l D kA GG y_jMath_min1 z_jMath_min1 e_jMath_min1_v81 := chk_all_ok (FT := []) (PT := []) (CT := t_jMath_min1_v81_ct) (KT := []) (NT := []) (AN := n_jMath_min1_v81_an) (OT := []) 0 200 (List.forall_mem_nil _) (pl_Math rfl (by decide)) ⟨List.forall_mem_nil _, List.forall_mem_nil _, List.forall_mem_nil _, List.forall_mem_nil _, List.forall_mem_nil _, GG_pl⟩ (by decide +kernel)
def e_jMath_min1_v82 : en_T := ([(0, 0, 64, []), (0, 0, 16, [])], some (0, 0, 16, []), true, 1, 0, 0, [], [], (0, [], [], [], []))
def n_jMath_min1_v82_an : List an_T := []
def t_jMath_min1_v82_ct : ct_L := []
set_option maxRecDepth 100000 in
theorem c_jMath_min1_v82 {l : Launch} {D : va_G} {kA : Nat → ClassId} : ct_ok l D kA GG y_jMath_min1 z_jMath_min1 e_jMath_min1_v82 := chk_all_ok (FT := []) (PT := []) (CT := t_jMath_min1_v82_ct) (KT := []) (NT := []) (AN := n_jMath_min1_v82_an) (OT := []) 0 200 (List.forall_mem_nil _) (pl_Math rfl (by decide)) ⟨List.forall_mem_nil _, List.forall_mem_nil _, List.forall_mem_nil _, List.forall_mem_nil _, List.forall_mem_nil _, GG_pl⟩ (by decide +kernel)
def e_jMath_min1_v83 : en_T := ([(0, 0, 16, []), (0, -64, 48, [])], some (0, -64, 16, []), true, 1, 0, 0, [], [], (0, [], [], [], []))
def n_jMath_min1_v83_an : List an_T := []
def t_jMath_min1_v83_ct : ct_L := []
set_option maxRecDepth 100000 in
theorem c_jMath_min1_v83 {l : Launch} {D : va_G} {kA : Nat → ClassId} : ct_ok l D kA GG y_jMath_min1 z_jMath_min1 e_jMath_min1_v83 := chk_all_ok (FT := []) (PT := []) (CT := t_jMath_min1_v83_ct) (KT := []) (NT := []) (AN := n_jMath_min1_v83_an) (OT := []) 0 200 (List.forall_mem_nil _) (pl_Math rfl (by decide)) ⟨List.forall_mem_nil _, List.forall_mem_nil _, List.forall_mem_nil _, List.forall_mem_nil _, List.forall_mem_nil _, GG_pl⟩ (by decide +kernel)
def e_jMath_max1_v84 : en_T := ([(0, 0, 0, []), (0, -64, 16, [])], some (0, 0, 16, []), true, 1, 0, 0, [], [], (0, [], [], [], []))
def n_jMath_max1_v84_an : List an_T := []
def t_jMath_max1_v84_ct : ct_L := []
set_option maxRecDepth 100000 in
theorem c_jMath_max1_v84 {l : Launch} {D : va_G} {kA : Nat → ClassId} : ct_ok l D kA GG y_jMath_max1 z_jMath_max1 e_jMath_max1_v84 := chk_all_ok (FT := []) (PT := []) (CT := t_jMath_max1_v84_ct) (KT := []) (NT := []) (AN := n_jMath_max1_v84_an) (OT := []) 0 200 (List.forall_mem_nil _) (pl_Math rfl (by decide)) ⟨List.forall_mem_nil _, List.forall_mem_nil _, List.forall_mem_nil _, List.forall_mem_nil _, List.forall_mem_nil _, GG_pl⟩ (by decide +kernel)
def e_jMath_min1_v85 : en_T := ([(0, -16, 64, []), (0, 0, 16, [])], some (0, -16, 16, []), true, 1, 0, 0, [], [], (0, [], [], [], []))
def n_jMath_min1_v85_an : List an_T := []
def t_jMath_min1_v85_ct : ct_L := []
set_option maxRecDepth 100000 in
theorem c_jMath_min1_v85 {l : Launch} {D : va_G} {kA : Nat → ClassId} : ct_ok l D kA GG y_jMath_min1 z_jMath_min1 e_jMath_min1_v85 := chk_all_ok (FT := []) (PT := []) (CT := t_jMath_min1_v85_ct) (KT := []) (NT := []) (AN := n_jMath_min1_v85_an) (OT := []) 0 200 (List.forall_mem_nil _) (pl_Math rfl (by decide)) ⟨List.forall_mem_nil _, List.forall_mem_nil _, List.forall_mem_nil _, List.forall_mem_nil _, List.forall_mem_nil _, GG_pl⟩ (by decide +kernel)
def e_jMath_min1_v86 : en_T := ([(0, -16, 16, []), (0, -64, 64, [])], some (0, -64, 16, []), true, 1, 0, 0, [], [], (0, [], [], [], []))
def n_jMath_min1_v86_an : List an_T := []
def t_jMath_min1_v86_ct : ct_L := []
set_option maxRecDepth 100000 in
theorem c_jMath_min1_v86 {l : Launch} {D : va_G} {kA : Nat → ClassId} : ct_ok l D kA GG y_jMath_min1 z_jMath_min1 e_jMath_min1_v86 := chk_all_ok (FT := []) (PT := []) (CT := t_jMath_min1_v86_ct) (KT := []) (NT := []) (AN := n_jMath_min1_v86_an) (OT := []) 0 200 (List.forall_mem_nil _) (pl_Math rfl (by decide)) ⟨List.forall_mem_nil _, List.forall_mem_nil _, List.forall_mem_nil _, List.forall_mem_nil _, List.forall_mem_nil _, GG_pl⟩ (by decide +kernel)
def e_jMath_min1_v87 : en_T := ([(0, 0, 96, []), (0, 0, 24, [])], some (0, 0, 24, []), true, 1, 0, 0, [], [], (0, [], [], [], []))
def n_jMath_min1_v87_an : List an_T := []
def t_jMath_min1_v87_ct : ct_L := []
set_option maxRecDepth 100000 in
theorem c_jMath_min1_v87 {l : Launch} {D : va_G} {kA : Nat → ClassId} : ct_ok l D kA GG y_jMath_min1 z_jMath_min1 e_jMath_min1_v87 := chk_all_ok (FT := []) (PT := []) (CT := t_jMath_min1_v87_ct) (KT := []) (NT := []) (AN := n_jMath_min1_v87_an) (OT := []) 0 200 (List.forall_mem_nil _) (pl_Math rfl (by decide)) ⟨List.forall_mem_nil _, List.forall_mem_nil _, List.forall_mem_nil _, List.forall_mem_nil _, List.forall_mem_nil _, GG_pl⟩ (by decide +kernel)
def e_jMath_min1_v88 : en_T := ([(0, 0, 24, []), (0, -96, 72, [])], some (0, -96, 24, []), true, 1, 0, 0, [], [], (0, [], [], [], []))
def n_jMath_min1_v88_an : List an_T := []
def t_jMath_min1_v88_ct : ct_L := []
set_option maxRecDepth 100000 in
theorem c_jMath_min1_v88 {l : Launch} {D : va_G} {kA : Nat → ClassId} : ct_ok l D kA GG y_jMath_min1 z_jMath_min1 e_jMath_min1_v88 := chk_all_ok (FT := []) (PT := []) (CT := t_jMath_min1_v88_ct) (KT := []) (NT := []) (AN := n_jMath_min1_v88_an) (OT := []) 0 200 (List.forall_mem_nil _) (pl_Math rfl (by decide)) ⟨List.forall_mem_nil _, List.forall_mem_nil _, List.forall_mem_nil _, List.forall_mem_nil _, List.forall_mem_nil _, GG_pl⟩ (by decide +kernel)
def e_jMath_max1_v89 : en_T := ([(0, 0, 0, []), (0, -96, 24, [])], some (0, 0, 24, []), true, 1, 0, 0, [], [], (0, [], [], [], []))
def n_jMath_max1_v89_an : List an_T := []
def t_jMath_max1_v89_ct : ct_L := []
set_option maxRecDepth 100000 in
theorem c_jMath_max1_v89 {l : Launch} {D : va_G} {kA : Nat → ClassId} : ct_ok l D kA GG y_jMath_max1 z_jMath_max1 e_jMath_max1_v89 := chk_all_ok (FT := []) (PT := []) (CT := t_jMath_max1_v89_ct) (KT := []) (NT := []) (AN := n_jMath_max1_v89_an) (OT := []) 0 200 (List.forall_mem_nil _) (pl_Math rfl (by decide)) ⟨List.forall_mem_nil _, List.forall_mem_nil _, List.forall_mem_nil _, List.forall_mem_nil _, List.forall_mem_nil _, GG_pl⟩ (by decide +kernel)
def e_jMath_min1_v90 : en_T := ([(0, -24, 96, []), (0, 0, 24, [])], some (0, -24, 24, []), true, 1, 0, 0, [], [], (0, [], [], [], []))
def n_jMath_min1_v90_an : List an_T := []
def t_jMath_min1_v90_ct : ct_L := []
set_option maxRecDepth 100000 in
theorem c_jMath_min1_v90 {l : Launch} {D : va_G} {kA : Nat → ClassId} : ct_ok l D kA GG y_jMath_min1 z_jMath_min1 e_jMath_min1_v90 := chk_all_ok (FT := []) (PT := []) (CT := t_jMath_min1_v90_ct) (KT := []) (NT := []) (AN := n_jMath_min1_v90_an) (OT := []) 0 200 (List.forall_mem_nil _) (pl_Math rfl (by decide)) ⟨List.forall_mem_nil _, List.forall_mem_nil _, List.forall_mem_nil _, List.forall_mem_nil _, List.forall_mem_nil _, GG_pl⟩ (by decide +kernel)
def e_jMath_min1_v91 : en_T := ([(0, -24, 24, []), (0, -96, 96, [])], some (0, -96, 24, []), true, 1, 0, 0, [], [], (0, [], [], [], []))
def n_jMath_min1_v91_an : List an_T := []
def t_jMath_min1_v91_ct : ct_L := []
set_option maxRecDepth 100000 in
theorem c_jMath_min1_v91 {l : Launch} {D : va_G} {kA : Nat → ClassId} : ct_ok l D kA GG y_jMath_min1 z_jMath_min1 e_jMath_min1_v91 := chk_all_ok (FT := []) (PT := []) (CT := t_jMath_min1_v91_ct) (KT := []) (NT := []) (AN := n_jMath_min1_v91_an) (OT := []) 0 200 (List.forall_mem_nil _) (pl_Math rfl (by decide)) ⟨List.forall_mem_nil _, List.forall_mem_nil _, List.forall_mem_nil _, List.forall_mem_nil _, List.forall_mem_nil _, GG_pl⟩ (by decide +kernel)
def e_jMath_min1_v92 : en_T := ([(0, 0, 128, []), (0, 0, 32, [])], some (0, 0, 32, []), true, 1, 0, 0, [], [], (0, [], [], [], []))
def n_jMath_min1_v92_an : List an_T := []
def t_jMath_min1_v92_ct : ct_L := []
set_option maxRecDepth 100000 in
theorem c_jMath_min1_v92 {l : Launch} {D : va_G} {kA : Nat → ClassId} : ct_ok l D kA GG y_jMath_min1 z_jMath_min1 e_jMath_min1_v92 := chk_all_ok (FT := []) (PT := []) (CT := t_jMath_min1_v92_ct) (KT := []) (NT := []) (AN := n_jMath_min1_v92_an) (OT := []) 0 200 (List.forall_mem_nil _) (pl_Math rfl (by decide)) ⟨List.forall_mem_nil _, List.forall_mem_nil _, List.forall_mem_nil _, List.forall_mem_nil _, List.forall_mem_nil _, GG_pl⟩ (by decide +kernel)
def e_jMath_min1_v93 : en_T := ([(0, 0, 32, []), (0, -128, 96, [])], some (0, -128, 32, []), true, 1, 0, 0, [], [], (0, [], [], [], []))
def n_jMath_min1_v93_an : List an_T := []
def t_jMath_min1_v93_ct : ct_L := []
set_option maxRecDepth 100000 in
theorem c_jMath_min1_v93 {l : Launch} {D : va_G} {kA : Nat → ClassId} : ct_ok l D kA GG y_jMath_min1 z_jMath_min1 e_jMath_min1_v93 := chk_all_ok (FT := []) (PT := []) (CT := t_jMath_min1_v93_ct) (KT := []) (NT := []) (AN := n_jMath_min1_v93_an) (OT := []) 0 200 (List.forall_mem_nil _) (pl_Math rfl (by decide)) ⟨List.forall_mem_nil _, List.forall_mem_nil _, List.forall_mem_nil _, List.forall_mem_nil _, List.forall_mem_nil _, GG_pl⟩ (by decide +kernel)
def e_jMath_max1_v94 : en_T := ([(0, 0, 0, []), (0, -128, 32, [])], some (0, 0, 32, []), true, 1, 0, 0, [], [], (0, [], [], [], []))
def n_jMath_max1_v94_an : List an_T := []
def t_jMath_max1_v94_ct : ct_L := []
set_option maxRecDepth 100000 in
theorem c_jMath_max1_v94 {l : Launch} {D : va_G} {kA : Nat → ClassId} : ct_ok l D kA GG y_jMath_max1 z_jMath_max1 e_jMath_max1_v94 := chk_all_ok (FT := []) (PT := []) (CT := t_jMath_max1_v94_ct) (KT := []) (NT := []) (AN := n_jMath_max1_v94_an) (OT := []) 0 200 (List.forall_mem_nil _) (pl_Math rfl (by decide)) ⟨List.forall_mem_nil _, List.forall_mem_nil _, List.forall_mem_nil _, List.forall_mem_nil _, List.forall_mem_nil _, GG_pl⟩ (by decide +kernel)
def e_jMath_min1_v95 : en_T := ([(0, -32, 128, []), (0, 0, 32, [])], some (0, -32, 32, []), true, 1, 0, 0, [], [], (0, [], [], [], []))
def n_jMath_min1_v95_an : List an_T := []
def t_jMath_min1_v95_ct : ct_L := []
set_option maxRecDepth 100000 in
theorem c_jMath_min1_v95 {l : Launch} {D : va_G} {kA : Nat → ClassId} : ct_ok l D kA GG y_jMath_min1 z_jMath_min1 e_jMath_min1_v95 := chk_all_ok (FT := []) (PT := []) (CT := t_jMath_min1_v95_ct) (KT := []) (NT := []) (AN := n_jMath_min1_v95_an) (OT := []) 0 200 (List.forall_mem_nil _) (pl_Math rfl (by decide)) ⟨List.forall_mem_nil _, List.forall_mem_nil _, List.forall_mem_nil _, List.forall_mem_nil _, List.forall_mem_nil _, GG_pl⟩ (by decide +kernel)
def e_jMath_min1_v96 : en_T := ([(0, -32, 32, []), (0, -128, 128, [])], some (0, -128, 32, []), true, 1, 0, 0, [], [], (0, [], [], [], []))
def n_jMath_min1_v96_an : List an_T := []
def t_jMath_min1_v96_ct : ct_L := []
set_option maxRecDepth 100000 in
theorem c_jMath_min1_v96 {l : Launch} {D : va_G} {kA : Nat → ClassId} : ct_ok l D kA GG y_jMath_min1 z_jMath_min1 e_jMath_min1_v96 := chk_all_ok (FT := []) (PT := []) (CT := t_jMath_min1_v96_ct) (KT := []) (NT := []) (AN := n_jMath_min1_v96_an) (OT := []) 0 200 (List.forall_mem_nil _) (pl_Math rfl (by decide)) ⟨List.forall_mem_nil _, List.forall_mem_nil _, List.forall_mem_nil _, List.forall_mem_nil _, List.forall_mem_nil _, GG_pl⟩ (by decide +kernel)
def e_jMath_min1_v97 : en_T := ([(0, 0, 224, []), (0, 0, 63, [])], some (0, 0, 63, []), true, 1, 0, 0, [], [], (0, [], [], [], []))
def n_jMath_min1_v97_an : List an_T := []
def t_jMath_min1_v97_ct : ct_L := []
set_option maxRecDepth 100000 in
theorem c_jMath_min1_v97 {l : Launch} {D : va_G} {kA : Nat → ClassId} : ct_ok l D kA GG y_jMath_min1 z_jMath_min1 e_jMath_min1_v97 := chk_all_ok (FT := []) (PT := []) (CT := t_jMath_min1_v97_ct) (KT := []) (NT := []) (AN := n_jMath_min1_v97_an) (OT := []) 0 200 (List.forall_mem_nil _) (pl_Math rfl (by decide)) ⟨List.forall_mem_nil _, List.forall_mem_nil _, List.forall_mem_nil _, List.forall_mem_nil _, List.forall_mem_nil _, GG_pl⟩ (by decide +kernel)
def e_jMath_min1_v98 : en_T := ([(0, 0, 63, []), (0, -224, 189, [])], some (0, -224, 63, []), true, 1, 0, 0, [], [], (0, [], [], [], []))
def n_jMath_min1_v98_an : List an_T := []
def t_jMath_min1_v98_ct : ct_L := []
set_option maxRecDepth 100000 in
theorem c_jMath_min1_v98 {l : Launch} {D : va_G} {kA : Nat → ClassId} : ct_ok l D kA GG y_jMath_min1 z_jMath_min1 e_jMath_min1_v98 := chk_all_ok (FT := []) (PT := []) (CT := t_jMath_min1_v98_ct) (KT := []) (NT := []) (AN := n_jMath_min1_v98_an) (OT := []) 0 200 (List.forall_mem_nil _) (pl_Math rfl (by decide)) ⟨List.forall_mem_nil _, List.forall_mem_nil _, List.forall_mem_nil _, List.forall_mem_nil _, List.forall_mem_nil _, GG_pl⟩ (by decide +kernel)
def e_jMath_max1_v99 : en_T := ([(0, 0, 0, []), (0, -224, 63, [])], some (0, 0, 63, []), true, 1, 0, 0, [], [], (0, [], [], [], []))
def n_jMath_max1_v99_an : List an_T := []
def t_jMath_max1_v99_ct : ct_L := []
set_option maxRecDepth 100000 in
theorem c_jMath_max1_v99 {l : Launch} {D : va_G} {kA : Nat → ClassId} : ct_ok l D kA GG y_jMath_max1 z_jMath_max1 e_jMath_max1_v99 := chk_all_ok (FT := []) (PT := []) (CT := t_jMath_max1_v99_ct) (KT := []) (NT := []) (AN := n_jMath_max1_v99_an) (OT := []) 0 200 (List.forall_mem_nil _) (pl_Math rfl (by decide)) ⟨List.forall_mem_nil _, List.forall_mem_nil _, List.forall_mem_nil _, List.forall_mem_nil _, List.forall_mem_nil _, GG_pl⟩ (by decide +kernel)
def e_jMath_min1_v100 : en_T := ([(0, -63, 224, []), (0, 0, 63, [])], some (0, -63, 63, []), true, 1, 0, 0, [], [], (0, [], [], [], []))
def n_jMath_min1_v100_an : List an_T := []
def t_jMath_min1_v100_ct : ct_L := []
set_option maxRecDepth 100000 in
theorem c_jMath_min1_v100 {l : Launch} {D : va_G} {kA : Nat → ClassId} : ct_ok l D kA GG y_jMath_min1 z_jMath_min1 e_jMath_min1_v100 := chk_all_ok (FT := []) (PT := []) (CT := t_jMath_min1_v100_ct) (KT := []) (NT := []) (AN := n_jMath_min1_v100_an) (OT := []) 0 200 (List.forall_mem_nil _) (pl_Math rfl (by decide)) ⟨List.forall_mem_nil _, List.forall_mem_nil _, List.forall_mem_nil _, List.forall_mem_nil _, List.forall_mem_nil _, GG_pl⟩ (by decide +kernel)
def e_jMath_min1_v101 : en_T := ([(0, -63, 63, []), (0, -224, 252, [])], some (0, -224, 63, []), true, 1, 0, 0, [], [], (0, [], [], [], []))
def n_jMath_min1_v101_an : List an_T := []
def t_jMath_min1_v101_ct : ct_L := []
set_option maxRecDepth 100000 in
theorem c_jMath_min1_v101 {l : Launch} {D : va_G} {kA : Nat → ClassId} : ct_ok l D kA GG y_jMath_min1 z_jMath_min1 e_jMath_min1_v101 := chk_all_ok (FT := []) (PT := []) (CT := t_jMath_min1_v101_ct) (KT := []) (NT := []) (AN := n_jMath_min1_v101_an) (OT := []) 0 200 (List.forall_mem_nil _) (pl_Math rfl (by decide)) ⟨List.forall_mem_nil _, List.forall_mem_nil _, List.forall_mem_nil _, List.forall_mem_nil _, List.forall_mem_nil _, GG_pl⟩ (by decide +kernel)
def e_jMath_min1_v102 : en_T := ([(0, 0, 256, []), (0, 0, 64, [])], some (0, 0, 64, []), true, 1, 0, 0, [], [], (0, [], [], [], []))
def n_jMath_min1_v102_an : List an_T := []
def t_jMath_min1_v102_ct : ct_L := []
set_option maxRecDepth 100000 in
theorem c_jMath_min1_v102 {l : Launch} {D : va_G} {kA : Nat → ClassId} : ct_ok l D kA GG y_jMath_min1 z_jMath_min1 e_jMath_min1_v102 := chk_all_ok (FT := []) (PT := []) (CT := t_jMath_min1_v102_ct) (KT := []) (NT := []) (AN := n_jMath_min1_v102_an) (OT := []) 0 200 (List.forall_mem_nil _) (pl_Math rfl (by decide)) ⟨List.forall_mem_nil _, List.forall_mem_nil _, List.forall_mem_nil _, List.forall_mem_nil _, List.forall_mem_nil _, GG_pl⟩ (by decide +kernel)
def e_jMath_min1_v103 : en_T := ([(0, 0, 64, []), (0, -256, 192, [])], some (0, -256, 64, []), true, 1, 0, 0, [], [], (0, [], [], [], []))
def n_jMath_min1_v103_an : List an_T := []
def t_jMath_min1_v103_ct : ct_L := []
set_option maxRecDepth 100000 in
theorem c_jMath_min1_v103 {l : Launch} {D : va_G} {kA : Nat → ClassId} : ct_ok l D kA GG y_jMath_min1 z_jMath_min1 e_jMath_min1_v103 := chk_all_ok (FT := []) (PT := []) (CT := t_jMath_min1_v103_ct) (KT := []) (NT := []) (AN := n_jMath_min1_v103_an) (OT := []) 0 200 (List.forall_mem_nil _) (pl_Math rfl (by decide)) ⟨List.forall_mem_nil _, List.forall_mem_nil _, List.forall_mem_nil _, List.forall_mem_nil _, List.forall_mem_nil _, GG_pl⟩ (by decide +kernel)
def e_jMath_max1_v104 : en_T := ([(0, 0, 0, []), (0, -256, 64, [])], some (0, 0, 64, []), true, 1, 0, 0, [], [], (0, [], [], [], []))
def n_jMath_max1_v104_an : List an_T := []
def t_jMath_max1_v104_ct : ct_L := []
set_option maxRecDepth 100000 in
theorem c_jMath_max1_v104 {l : Launch} {D : va_G} {kA : Nat → ClassId} : ct_ok l D kA GG y_jMath_max1 z_jMath_max1 e_jMath_max1_v104 := chk_all_ok (FT := []) (PT := []) (CT := t_jMath_max1_v104_ct) (KT := []) (NT := []) (AN := n_jMath_max1_v104_an) (OT := []) 0 200 (List.forall_mem_nil _) (pl_Math rfl (by decide)) ⟨List.forall_mem_nil _, List.forall_mem_nil _, List.forall_mem_nil _, List.forall_mem_nil _, List.forall_mem_nil _, GG_pl⟩ (by decide +kernel)
def e_jMath_min1_v105 : en_T := ([(0, -64, 256, []), (0, 0, 64, [])], some (0, -64, 64, []), true, 1, 0, 0, [], [], (0, [], [], [], []))
def n_jMath_min1_v105_an : List an_T := []
def t_jMath_min1_v105_ct : ct_L := []
set_option maxRecDepth 100000 in
theorem c_jMath_min1_v105 {l : Launch} {D : va_G} {kA : Nat → ClassId} : ct_ok l D kA GG y_jMath_min1 z_jMath_min1 e_jMath_min1_v105 := chk_all_ok (FT := []) (PT := []) (CT := t_jMath_min1_v105_ct) (KT := []) (NT := []) (AN := n_jMath_min1_v105_an) (OT := []) 0 200 (List.forall_mem_nil _) (pl_Math rfl (by decide)) ⟨List.forall_mem_nil _, List.forall_mem_nil _, List.forall_mem_nil _, List.forall_mem_nil _, List.forall_mem_nil _, GG_pl⟩ (by decide +kernel)
def e_jMath_min1_v106 : en_T := ([(0, -64, 64, []), (0, -256, 256, [])], some (0, -256, 64, []), true, 1, 0, 0, [], [], (0, [], [], [], []))
def n_jMath_min1_v106_an : List an_T := []
def t_jMath_min1_v106_ct : ct_L := []
set_option maxRecDepth 100000 in
theorem c_jMath_min1_v106 {l : Launch} {D : va_G} {kA : Nat → ClassId} : ct_ok l D kA GG y_jMath_min1 z_jMath_min1 e_jMath_min1_v106 := chk_all_ok (FT := []) (PT := []) (CT := t_jMath_min1_v106_ct) (KT := []) (NT := []) (AN := n_jMath_min1_v106_an) (OT := []) 0 200 (List.forall_mem_nil _) (pl_Math rfl (by decide)) ⟨List.forall_mem_nil _, List.forall_mem_nil _, List.forall_mem_nil _, List.forall_mem_nil _, List.forall_mem_nil _, GG_pl⟩ (by decide +kernel)
def e_jMath_min1_v107 : en_T := ([(0, 0, 480, []), (0, 0, 64, [])], some (0, 0, 64, []), true, 1, 0, 0, [], [], (0, [], [], [], []))
def n_jMath_min1_v107_an : List an_T := []
def t_jMath_min1_v107_ct : ct_L := []
set_option maxRecDepth 100000 in
theorem c_jMath_min1_v107 {l : Launch} {D : va_G} {kA : Nat → ClassId} : ct_ok l D kA GG y_jMath_min1 z_jMath_min1 e_jMath_min1_v107 := chk_all_ok (FT := []) (PT := []) (CT := t_jMath_min1_v107_ct) (KT := []) (NT := []) (AN := n_jMath_min1_v107_an) (OT := []) 0 200 (List.forall_mem_nil _) (pl_Math rfl (by decide)) ⟨List.forall_mem_nil _, List.forall_mem_nil _, List.forall_mem_nil _, List.forall_mem_nil _, List.forall_mem_nil _, GG_pl⟩ (by decide +kernel)
def e_jMath_min1_v108 : en_T := ([(0, 0, 64, []), (0, -480, 192, [])], some (0, -480, 64, []), true, 1, 0, 0, [], [], (0, [], [], [], []))
def n_jMath_min1_v108_an : List an_T := []
def t_jMath_min1_v108_ct : ct_L := []
set_option maxRecDepth 100000 in
theorem c_jMath_min1_v108 {l : Launch} {D : va_G} {kA : Nat → ClassId} : ct_ok l D kA GG y_jMath_min1 z_jMath_min1 e_jMath_min1_v108 := chk_all_ok (FT := []) (PT := []) (CT := t_jMath_min1_v108_ct) (KT := []) (NT := []) (AN := n_jMath_min1_v108_an) (OT := []) 0 200 (List.forall_mem_nil _) (pl_Math rfl (by decide)) ⟨List.forall_mem_nil _, List.forall_mem_nil _, List.forall_mem_nil _, List.forall_mem_nil _, List.forall_mem_nil _, GG_pl⟩ (by decide +kernel)
def e_jMath_max1_v109 : en_T := ([(0, 0, 0, []), (0, -480, 64, [])], some (0, 0, 64, []), true, 1, 0, 0, [], [], (0, [], [], [], []))
def n_jMath_max1_v109_an : List an_T := []
def t_jMath_max1_v109_ct : ct_L := []
set_option maxRecDepth 100000 in
theorem c_jMath_max1_v109 {l : Launch} {D : va_G} {kA : Nat → ClassId} : ct_ok l D kA GG y_jMath_max1 z_jMath_max1 e_jMath_max1_v109 := chk_all_ok (FT := []) (PT := []) (CT := t_jMath_max1_v109_ct) (KT := []) (NT := []) (AN := n_jMath_max1_v109_an) (OT := []) 0 200 (List.forall_mem_nil _) (pl_Math rfl (by decide)) ⟨List.forall_mem_nil _, List.forall_mem_nil _, List.forall_mem_nil _, List.forall_mem_nil _, List.forall_mem_nil _, GG_pl⟩ (by decide +kernel)
def e_jMath_min1_v110 : en_T := ([(0, -64, 480, []), (0, 0, 64, [])], some (0, -64, 64, []), true, 1, 0, 0, [], [], (0, [], [], [], []))
def n_jMath_min1_v110_an : List an_T := []
def t_jMath_min1_v110_ct : ct_L := []
set_option maxRecDepth 100000 in
theorem c_jMath_min1_v110 {l : Launch} {D : va_G} {kA : Nat → ClassId} : ct_ok l D kA GG y_jMath_min1 z_jMath_min1 e_jMath_min1_v110 := chk_all_ok (FT := []) (PT := []) (CT := t_jMath_min1_v110_ct) (KT := []) (NT := []) (AN := n_jMath_min1_v110_an) (OT := []) 0 200 (List.forall_mem_nil _) (pl_Math rfl (by decide)) ⟨List.forall_mem_nil _, List.forall_mem_nil _, List.forall_mem_nil _, List.forall_mem_nil _, List.forall_mem_nil _, GG_pl⟩ (by decide +kernel)
def e_jMath_min1_v111 : en_T := ([(0, -64, 64, []), (0, -480, 256, [])], some (0, -480, 64, []), true, 1, 0, 0, [], [], (0, [], [], [], []))
def n_jMath_min1_v111_an : List an_T := []
def t_jMath_min1_v111_ct : ct_L := []
set_option maxRecDepth 100000 in
theorem c_jMath_min1_v111 {l : Launch} {D : va_G} {kA : Nat → ClassId} : ct_ok l D kA GG y_jMath_min1 z_jMath_min1 e_jMath_min1_v111 := chk_all_ok (FT := []) (PT := []) (CT := t_jMath_min1_v111_ct) (KT := []) (NT := []) (AN := n_jMath_min1_v111_an) (OT := []) 0 200 (List.forall_mem_nil _) (pl_Math rfl (by decide)) ⟨List.forall_mem_nil _, List.forall_mem_nil _, List.forall_mem_nil _, List.forall_mem_nil _, List.forall_mem_nil _, GG_pl⟩ (by decide +kernel)
def e_jMath_min1_v112 : en_T := ([(0, 0, 512, []), (0, 0, 64, [])], some (0, 0, 64, []), true, 1, 0, 0, [], [], (0, [], [], [], []))
def n_jMath_min1_v112_an : List an_T := []
def t_jMath_min1_v112_ct : ct_L := []
set_option maxRecDepth 100000 in
theorem c_jMath_min1_v112 {l : Launch} {D : va_G} {kA : Nat → ClassId} : ct_ok l D kA GG y_jMath_min1 z_jMath_min1 e_jMath_min1_v112 := chk_all_ok (FT := []) (PT := []) (CT := t_jMath_min1_v112_ct) (KT := []) (NT := []) (AN := n_jMath_min1_v112_an) (OT := []) 0 200 (List.forall_mem_nil _) (pl_Math rfl (by decide)) ⟨List.forall_mem_nil _, List.forall_mem_nil _, List.forall_mem_nil _, List.forall_mem_nil _, List.forall_mem_nil _, GG_pl⟩ (by decide +kernel)
def e_jMath_min1_v113 : en_T := ([(0, 0, 64, []), (0, -512, 192, [])], some (0, -512, 64, []), true, 1, 0, 0, [], [], (0, [], [], [], []))
def n_jMath_min1_v113_an : List an_T := []
def t_jMath_min1_v113_ct : ct_L := []
set_option maxRecDepth 100000 in
theorem c_jMath_min1_v113 {l : Launch} {D : va_G} {kA : Nat → ClassId} : ct_ok l D kA GG y_jMath_min1 z_jMath_min1 e_jMath_min1_v113 := chk_all_ok (FT := []) (PT := []) (CT := t_jMath_min1_v113_ct) (KT := []) (NT := []) (AN := n_jMath_min1_v113_an) (OT := []) 0 200 (List.forall_mem_nil _) (pl_Math rfl (by decide)) ⟨List.forall_mem_nil _, List.forall_mem_nil _, List.forall_mem_nil _, List.forall_mem_nil _, List.forall_mem_nil _, GG_pl⟩ (by decide +kernel)
def e_jMath_max1_v114 : en_T := ([(0, 0, 0, []), (0, -512, 64, [])], some (0, 0, 64, []), true, 1, 0, 0, [], [], (0, [], [], [], []))
def n_jMath_max1_v114_an : List an_T := []
def t_jMath_max1_v114_ct : ct_L := []
set_option maxRecDepth 100000 in
theorem c_jMath_max1_v114 {l : Launch} {D : va_G} {kA : Nat → ClassId} : ct_ok l D kA GG y_jMath_max1 z_jMath_max1 e_jMath_max1_v114 := chk_all_ok (FT := []) (PT := []) (CT := t_jMath_max1_v114_ct) (KT := []) (NT := []) (AN := n_jMath_max1_v114_an) (OT := []) 0 200 (List.forall_mem_nil _) (pl_Math rfl (by decide)) ⟨List.forall_mem_nil _, List.forall_mem_nil _, List.forall_mem_nil _, List.forall_mem_nil _, List.forall_mem_nil _, GG_pl⟩ (by decide +kernel)
def e_jMath_min1_v115 : en_T := ([(0, -64, 512, []), (0, 0, 64, [])], some (0, -64, 64, []), true, 1, 0, 0, [], [], (0, [], [], [], []))
def n_jMath_min1_v115_an : List an_T := []
def t_jMath_min1_v115_ct : ct_L := []
set_option maxRecDepth 100000 in
theorem c_jMath_min1_v115 {l : Launch} {D : va_G} {kA : Nat → ClassId} : ct_ok l D kA GG y_jMath_min1 z_jMath_min1 e_jMath_min1_v115 := chk_all_ok (FT := []) (PT := []) (CT := t_jMath_min1_v115_ct) (KT := []) (NT := []) (AN := n_jMath_min1_v115_an) (OT := []) 0 200 (List.forall_mem_nil _) (pl_Math rfl (by decide)) ⟨List.forall_mem_nil _, List.forall_mem_nil _, List.forall_mem_nil _, List.forall_mem_nil _, List.forall_mem_nil _, GG_pl⟩ (by decide +kernel)
def e_jMath_min1_v116 : en_T := ([(0, -64, 64, []), (0, -512, 256, [])], some (0, -512, 64, []), true, 1, 0, 0, [], [], (0, [], [], [], []))
def n_jMath_min1_v116_an : List an_T := []
def t_jMath_min1_v116_ct : ct_L := []
set_option maxRecDepth 100000 in
theorem c_jMath_min1_v116 {l : Launch} {D : va_G} {kA : Nat → ClassId} : ct_ok l D kA GG y_jMath_min1 z_jMath_min1 e_jMath_min1_v116 := chk_all_ok (FT := []) (PT := []) (CT := t_jMath_min1_v116_ct) (KT := []) (NT := []) (AN := n_jMath_min1_v116_an) (OT := []) 0 200 (List.forall_mem_nil _) (pl_Math rfl (by decide)) ⟨List.forall_mem_nil _, List.forall_mem_nil _, List.forall_mem_nil _, List.forall_mem_nil _, List.forall_mem_nil _, GG_pl⟩ (by decide +kernel)
def e_jMath_min1_v117 : en_T := ([(0, 0, 736, []), (0, 0, 64, [])], some (0, 0, 64, []), true, 1, 0, 0, [], [], (0, [], [], [], []))
def n_jMath_min1_v117_an : List an_T := []
def t_jMath_min1_v117_ct : ct_L := []
set_option maxRecDepth 100000 in
theorem c_jMath_min1_v117 {l : Launch} {D : va_G} {kA : Nat → ClassId} : ct_ok l D kA GG y_jMath_min1 z_jMath_min1 e_jMath_min1_v117 := chk_all_ok (FT := []) (PT := []) (CT := t_jMath_min1_v117_ct) (KT := []) (NT := []) (AN := n_jMath_min1_v117_an) (OT := []) 0 200 (List.forall_mem_nil _) (pl_Math rfl (by decide)) ⟨List.forall_mem_nil _, List.forall_mem_nil _, List.forall_mem_nil _, List.forall_mem_nil _, List.forall_mem_nil _, GG_pl⟩ (by decide +kernel)
def e_jMath_min1_v118 : en_T := ([(0, 0, 64, []), (0, -736, 192, [])], some (0, -736, 64, []), true, 1, 0, 0, [], [], (0, [], [], [], []))
def n_jMath_min1_v118_an : List an_T := []
def t_jMath_min1_v118_ct : ct_L := []
set_option maxRecDepth 100000 in
theorem c_jMath_min1_v118 {l : Launch} {D : va_G} {kA : Nat → ClassId} : ct_ok l D kA GG y_jMath_min1 z_jMath_min1 e_jMath_min1_v118 := chk_all_ok (FT := []) (PT := []) (CT := t_jMath_min1_v118_ct) (KT := []) (NT := []) (AN := n_jMath_min1_v118_an) (OT := []) 0 200 (List.forall_mem_nil _) (pl_Math rfl (by decide)) ⟨List.forall_mem_nil _, List.forall_mem_nil _, List.forall_mem_nil _, List.forall_mem_nil _, List.forall_mem_nil _, GG_pl⟩ (by decide +kernel)
def e_jMath_max1_v119 : en_T := ([(0, 0, 0, []), (0, -736, 64, [])], some (0, 0, 64, []), true, 1, 0, 0, [], [], (0, [], [], [], []))
def n_jMath_max1_v119_an : List an_T := []
def t_jMath_max1_v119_ct : ct_L := []
set_option maxRecDepth 100000 in
theorem c_jMath_max1_v119 {l : Launch} {D : va_G} {kA : Nat → ClassId} : ct_ok l D kA GG y_jMath_max1 z_jMath_max1 e_jMath_max1_v119 := chk_all_ok (FT := []) (PT := []) (CT := t_jMath_max1_v119_ct) (KT := []) (NT := []) (AN := n_jMath_max1_v119_an) (OT := []) 0 200 (List.forall_mem_nil _) (pl_Math rfl (by decide)) ⟨List.forall_mem_nil _, List.forall_mem_nil _, List.forall_mem_nil _, List.forall_mem_nil _, List.forall_mem_nil _, GG_pl⟩ (by decide +kernel)
def e_jMath_min1_v120 : en_T := ([(0, -64, 736, []), (0, 0, 64, [])], some (0, -64, 64, []), true, 1, 0, 0, [], [], (0, [], [], [], []))
def n_jMath_min1_v120_an : List an_T := []
def t_jMath_min1_v120_ct : ct_L := []
set_option maxRecDepth 100000 in
theorem c_jMath_min1_v120 {l : Launch} {D : va_G} {kA : Nat → ClassId} : ct_ok l D kA GG y_jMath_min1 z_jMath_min1 e_jMath_min1_v120 := chk_all_ok (FT := []) (PT := []) (CT := t_jMath_min1_v120_ct) (KT := []) (NT := []) (AN := n_jMath_min1_v120_an) (OT := []) 0 200 (List.forall_mem_nil _) (pl_Math rfl (by decide)) ⟨List.forall_mem_nil _, List.forall_mem_nil _, List.forall_mem_nil _, List.forall_mem_nil _, List.forall_mem_nil _, GG_pl⟩ (by decide +kernel)
def e_jMath_min1_v121 : en_T := ([(0, -64, 64, []), (0, -736, 256, [])], some (0, -736, 64, []), true, 1, 0, 0, [], [], (0, [], [], [], []))
def n_jMath_min1_v121_an : List an_T := []
def t_jMath_min1_v121_ct : ct_L := []
set_option maxRecDepth 100000 in
theorem c_jMath_min1_v121 {l : Launch} {D : va_G} {kA : Nat → ClassId} : ct_ok l D kA GG y_jMath_min1 z_jMath_min1 e_jMath_min1_v121 := chk_all_ok (FT := []) (PT := []) (CT := t_jMath_min1_v121_ct) (KT := []) (NT := []) (AN := n_jMath_min1_v121_an) (OT := []) 0 200 (List.forall_mem_nil _) (pl_Math rfl (by decide)) ⟨List.forall_mem_nil _, List.forall_mem_nil _, List.forall_mem_nil _, List.forall_mem_nil _, List.forall_mem_nil _, GG_pl⟩ (by decide +kernel)
def e_jMath_min1_v122 : en_T := ([(0, 0, 736, []), (0, 0, 127, [])], some (0, 0, 127, []), true, 1, 0, 0, [], [], (0, [], [], [], []))
def n_jMath_min1_v122_an : List an_T := []
def t_jMath_min1_v122_ct : ct_L := []
set_option maxRecDepth 100000 in
theorem c_jMath_min1_v122 {l : Launch} {D : va_G} {kA : Nat → ClassId} : ct_ok l D kA GG y_jMath_min1 z_jMath_min1 e_jMath_min1_v122 := chk_all_ok (FT := []) (PT := []) (CT := t_jMath_min1_v122_ct) (KT := []) (NT := []) (AN := n_jMath_min1_v122_an) (OT := []) 0 200 (List.forall_mem_nil _) (pl_Math rfl (by decide)) ⟨List.forall_mem_nil _, List.forall_mem_nil _, List.forall_mem_nil _, List.forall_mem_nil _, List.forall_mem_nil _, GG_pl⟩ (by decide +kernel)
def e_jMath_min1_v123 : en_T := ([(0, 0, 127, []), (0, -736, 381, [])], some (0, -736, 127, []), true, 1, 0, 0, [], [], (0, [], [], [], []))
def n_jMath_min1_v123_an : List an_T := []
def t_jMath_min1_v123_ct : ct_L := []
set_option maxRecDepth 100000 in
theorem c_jMath_min1_v123 {l : Launch} {D : va_G} {kA : Nat → ClassId} : ct_ok l D kA GG y_jMath_min1 z_jMath_min1 e_jMath_min1_v123 := chk_all_ok (FT := []) (PT := []) (CT := t_jMath_min1_v123_ct) (KT := []) (NT := []) (AN := n_jMath_min1_v123_an) (OT := []) 0 200 (List.forall_mem_nil _) (pl_Math rfl (by decide)) ⟨List.forall_mem_nil _, List.forall_mem_nil _, List.forall_mem_nil _, List.forall_mem_nil _, List.forall_mem_nil _, GG_pl⟩ (by decide +kernel)
def e_jMath_max1_v124 : en_T := ([(0, 0, 0, []), (0, -736, 127, [])], some (0, 0, 127, []), true, 1, 0, 0, [], [], (0, [], [], [], []))
def n_jMath_max1_v124_an : List an_T := []
def t_jMath_max1_v124_ct : ct_L := []
set_option maxRecDepth 100000 in
theorem c_jMath_max1_v124 {l : Launch} {D : va_G} {kA : Nat → ClassId} : ct_ok l D kA GG y_jMath_max1 z_jMath_max1 e_jMath_max1_v124 := chk_all_ok (FT := []) (PT := []) (CT := t_jMath_max1_v124_ct) (KT := []) (NT := []) (AN := n_jMath_max1_v124_an) (OT := []) 0 200 (List.forall_mem_nil _) (pl_Math rfl (by decide)) ⟨List.forall_mem_nil _, List.forall_mem_nil _, List.forall_mem_nil _, List.forall_mem_nil _, List.forall_mem_nil _, GG_pl⟩ (by decide +kernel)
def e_jMath_min1_v125 : en_T := ([(0, -127, 736, []), (0, 0, 127, [])], some (0, -127, 127, []), true, 1, 0, 0, [], [], (0, [], [], [], []))
def n_jMath_min1_v125_an : List an_T := []
def t_jMath_min1_v125_ct : ct_L := []
set_option maxRecDepth 100000 in
theorem c_jMath_min1_v125 {l : Launch} {D : va_G} {kA : Nat → ClassId} : ct_ok l D kA GG y_jMath_min1 z_jMath_min1 e_jMath_min1_v125 := chk_all_ok (FT := []) (PT := []) (CT := t_jMath_min1_v125_ct) (KT := []) (NT := []) (AN := n_jMath_min1_v125_an) (OT := []) 0 200 (List.forall_mem_nil _) (pl_Math rfl (by decide)) ⟨List.forall_mem_nil _, List.forall_mem_nil _, List.forall_mem_nil _, List.forall_mem_nil _, List.forall_mem_nil _, GG_pl⟩ (by decide +kernel)
def e_jMath_min1_v126 : en_T := ([(0, -127, 127, []), (0, -736, 508, [])], some (0, -736, 127, []), true, 1, 0, 0, [], [], (0, [], [], [], []))
def n_jMath_min1_v126_an : List an_T := []
def t_jMath_min1_v126_ct : ct_L := []
set_option maxRecDepth 100000 in
theorem c_jMath_min1_v126 {l : Launch} {D : va_G} {kA : Nat → ClassId} : ct_ok l D kA GG y_jMath_min1 z_jMath_min1 e_jMath_min1_v126 := chk_all_ok (FT := []) (PT := []) (CT := t_jMath_min1_v126_ct) (KT := []) (NT := []) (AN := n_jMath_min1_v126_an) (OT := []) 0 200 (List.forall_mem_nil _) (pl_Math rfl (by decide)) ⟨List.forall_mem_nil _, List.forall_mem_nil _, List.forall_mem_nil _, List.forall_mem_nil _, List.forall_mem_nil _, GG_pl⟩ (by decide +kernel)
def e_jMath_min1_v127 : en_T := ([(0, 0, 736, []), (0, 0, 128, [])], some (0, 0, 128, []), true, 1, 0, 0, [], [], (0, [], [], [], []))
def n_jMath_min1_v127_an : List an_T := []
def t_jMath_min1_v127_ct : ct_L := []
set_option maxRecDepth 100000 in
theorem c_jMath_min1_v127 {l : Launch} {D : va_G} {kA : Nat → ClassId} : ct_ok l D kA GG y_jMath_min1 z_jMath_min1 e_jMath_min1_v127 := chk_all_ok (FT := []) (PT := []) (CT := t_jMath_min1_v127_ct) (KT := []) (NT := []) (AN := n_jMath_min1_v127_an) (OT := []) 0 200 (List.forall_mem_nil _) (pl_Math rfl (by decide)) ⟨List.forall_mem_nil _, List.forall_mem_nil _, List.forall_mem_nil _, List.forall_mem_nil _, List.forall_mem_nil _, GG_pl⟩ (by decide +kernel)
def e_jMath_min1_v128 : en_T := ([(0, 0, 128, []), (0, -736, 384, [])], some (0, -736, 128, []), true, 1, 0, 0, [], [], (0, [], [], [], []))
def n_jMath_min1_v128_an : List an_T := []
def t_jMath_min1_v128_ct : ct_L := []
set_option maxRecDepth 100000 in
theorem c_jMath_min1_v128 {l : Launch} {D : va_G} {kA : Nat → ClassId} : ct_ok l D kA GG y_jMath_min1 z_jMath_min1 e_jMath_min1_v128 := chk_all_ok (FT := []) (PT := []) (CT := t_jMath_min1_v128_ct) (KT := []) (NT := []) (AN := n_jMath_min1_v128_an) (OT := []) 0 200 (List.forall_mem_nil _) (pl_Math rfl (by decide)) ⟨List.forall_mem_nil _, List.forall_mem_nil _, List.forall_mem_nil _, List.forall_mem_nil _, List.forall_mem_nil _, GG_pl⟩ (by decide +kernel)
def e_jMath_max1_v129 : en_T := ([(0, 0, 0, []), (0, -736, 128, [])], some (0, 0, 128, []), true, 1, 0, 0, [], [], (0, [], [], [], []))
def n_jMath_max1_v129_an : List an_T := []
def t_jMath_max1_v129_ct : ct_L := []
set_option maxRecDepth 100000 in
theorem c_jMath_max1_v129 {l : Launch} {D : va_G} {kA : Nat → ClassId} : ct_ok l D kA GG y_jMath_max1 z_jMath_max1 e_jMath_max1_v129 := chk_all_ok (FT := []) (PT := []) (CT := t_jMath_max1_v129_ct) (KT := []) (NT := []) (AN := n_jMath_max1_v129_an) (OT := []) 0 200 (List.forall_mem_nil _) (pl_Math rfl (by decide)) ⟨List.forall_mem_nil _, List.forall_mem_nil _, List.forall_mem_nil _, List.forall_mem_nil _, List.forall_mem_nil _, GG_pl⟩ (by decide +kernel)
def e_jMath_min1_v130 : en_T := ([(0, -128, 736, []), (0, 0, 128, [])], some (0, -128, 128, []), true, 1, 0, 0, [], [], (0, [], [], [], []))
def n_jMath_min1_v130_an : List an_T := []
def t_jMath_min1_v130_ct : ct_L := []
set_option maxRecDepth 100000 in
theorem c_jMath_min1_v130 {l : Launch} {D : va_G} {kA : Nat → ClassId} : ct_ok l D kA GG y_jMath_min1 z_jMath_min1 e_jMath_min1_v130 := chk_all_ok (FT := []) (PT := []) (CT := t_jMath_min1_v130_ct) (KT := []) (NT := []) (AN := n_jMath_min1_v130_an) (OT := []) 0 200 (List.forall_mem_nil _) (pl_Math rfl (by decide)) ⟨List.forall_mem_nil _, List.forall_mem_nil _, List.forall_mem_nil _, List.forall_mem_nil _, List.forall_mem_nil _, GG_pl⟩ (by decide +kernel)
def e_jMath_min1_v131 : en_T := ([(0, -128, 128, []), (0, -736, 512, [])], some (0, -736, 128, []), true, 1, 0, 0, [], [], (0, [], [], [], []))
def n_jMath_min1_v131_an : List an_T := []
def t_jMath_min1_v131_ct : ct_L := []
set_option maxRecDepth 100000 in
theorem c_jMath_min1_v131 {l : Launch} {D : va_G} {kA : Nat → ClassId} : ct_ok l D kA GG y_jMath_min1 z_jMath_min1 e_jMath_min1_v131 := chk_all_ok (FT := []) (PT := []) (CT := t_jMath_min1_v131_ct) (KT := []) (NT := []) (AN := n_jMath_min1_v131_an) (OT := []) 0 200 (List.forall_mem_nil _) (pl_Math rfl (by decide)) ⟨List.forall_mem_nil _, List.forall_mem_nil _, List.forall_mem_nil _, List.forall_mem_nil _, List.forall_mem_nil _, GG_pl⟩ (by decide +kernel)
def e_jMath_min1_v132 : en_T := ([(0, 0, 736, []), (0, 0, 255, [])], some (0, 0, 255, []), true, 1, 0, 0, [], [], (0, [], [], [], []))
def n_jMath_min1_v132_an : List an_T := []
def t_jMath_min1_v132_ct : ct_L := []
set_option maxRecDepth 100000 in
theorem c_jMath_min1_v132 {l : Launch} {D : va_G} {kA : Nat → ClassId} : ct_ok l D kA GG y_jMath_min1 z_jMath_min1 e_jMath_min1_v132 := chk_all_ok (FT := []) (PT := []) (CT := t_jMath_min1_v132_ct) (KT := []) (NT := []) (AN := n_jMath_min1_v132_an) (OT := []) 0 200 (List.forall_mem_nil _) (pl_Math rfl (by decide)) ⟨List.forall_mem_nil _, List.forall_mem_nil _, List.forall_mem_nil _, List.forall_mem_nil _, List.forall_mem_nil _, GG_pl⟩ (by decide +kernel)
def e_jMath_min1_v133 : en_T := ([(0, 0, 255, []), (0, -736, 765, [])], some (0, -736, 255, []), true, 1, 0, 0, [], [], (0, [], [], [], []))
def n_jMath_min1_v133_an : List an_T := []
def t_jMath_min1_v133_ct : ct_L := []
set_option maxRecDepth 100000 in
theorem c_jMath_min1_v133 {l : Launch} {D : va_G} {kA : Nat → ClassId} : ct_ok l D kA GG y_jMath_min1 z_jMath_min1 e_jMath_min1_v133 := chk_all_ok (FT := []) (PT := []) (CT := t_jMath_min1_v133_ct) (KT := []) (NT := []) (AN := n_jMath_min1_v133_an) (OT := []) 0 200 (List.forall_mem_nil _) (pl_Math rfl (by decide)) ⟨List.forall_mem_nil _, List.forall_mem_nil _, List.forall_mem_nil _, List.forall_mem_nil _, List.forall_mem_nil _, GG_pl⟩ (by decide +kernel)
def e_jMath_max1_v134 : en_T := ([(0, 0, 0, []), (0, -736, 255, [])], some (0, 0, 255, []), true, 1, 0, 0, [], [], (0, [], [], [], []))
def n_jMath_max1_v134_an : List an_T := []
def t_jMath_max1_v134_ct : ct_L := []
set_option maxRecDepth 100000 in
theorem c_jMath_max1_v134 {l : Launch} {D : va_G} {kA : Nat → ClassId} : ct_ok l D kA GG y_jMath_max1 z_jMath_max1 e_jMath_max1_v134 := chk_all_ok (FT := []) (PT := []) (CT := t_jMath_max1_v134_ct) (KT := []) (NT := []) (AN := n_jMath_max1_v134_an) (OT := []) 0 200 (List.forall_mem_nil _) (pl_Math rfl (by decide)) ⟨List.forall_mem_nil _, List.forall_mem_nil _, List.forall_mem_nil _, List.forall_mem_nil _, List.forall_mem_nil _, GG_pl⟩ (by decide +kernel)
def e_jMath_min1_v135 : en_T := ([(0, -255, 736, []), (0, 0, 255, [])], some (0, -255, 255, []), true, 1, 0, 0, [], [], (0, [], [], [], []))
def n_jMath_min1_v135_an : List an_T := []
def t_jMath_min1_v135_ct : ct_L := []
set_option maxRecDepth 100000 in
theorem c_jMath_min1_v135 {l : Launch} {D : va_G} {kA : Nat → ClassId} : ct_ok l D kA GG y_jMath_min1 z_jMath_min1 e_jMath_min1_v135 := chk_all_ok (FT := []) (PT := []) (CT := t_jMath_min1_v135_ct) (KT := []) (NT := []) (AN := n_jMath_min1_v135_an) (OT := []) 0 200 (List.forall_mem_nil _) (pl_Math rfl (by decide)) ⟨List.forall_mem_nil _, List.forall_mem_nil _, List.forall_mem_nil _, List.forall_mem_nil _, List.forall_mem_nil _, GG_pl⟩ (by decide +kernel)
def e_jMath_min1_v136 : en_T := ([(0, -255, 255, []), (0, -736, 1020, [])], some (0, -736, 255, []), true, 1, 0, 0, [], [], (0, [], [], [], []))
def n_jMath_min1_v136_an : List an_T := []
def t_jMath_min1_v136_ct : ct_L := []
set_option maxRecDepth 100000 in
theorem c_jMath_min1_v136 {l : Launch} {D : va_G} {kA : Nat → ClassId} : ct_ok l D kA GG y_jMath_min1 z_jMath_min1 e_jMath_min1_v136 := chk_all_ok (FT := []) (PT := []) (CT := t_jMath_min1_v136_ct) (KT := []) (NT := []) (AN := n_jMath_min1_v136_an) (OT := []) 0 200 (List.forall_mem_nil _) (pl_Math rfl (by decide)) ⟨List.forall_mem_nil _, List.forall_mem_nil _, List.forall_mem_nil _, List.forall_mem_nil _, List.forall_mem_nil _, GG_pl⟩ (by decide +kernel)
def e_jMath_min1_v137 : en_T := ([(0, 0, 736, []), (0, 0, 192, [])], some (0, 0, 192, []), true, 1, 0, 0, [], [], (0, [], [], [], []))
def n_jMath_min1_v137_an : List an_T := []
def t_jMath_min1_v137_ct : ct_L := []
set_option maxRecDepth 100000 in
theorem c_jMath_min1_v137 {l : Launch} {D : va_G} {kA : Nat → ClassId} : ct_ok l D kA GG y_jMath_min1 z_jMath_min1 e_jMath_min1_v137 := chk_all_ok (FT := []) (PT := []) (CT := t_jMath_min1_v137_ct) (KT := []) (NT := []) (AN := n_jMath_min1_v137_an) (OT := []) 0 200 (List.forall_mem_nil _) (pl_Math rfl (by decide)) ⟨List.forall_mem_nil _, List.forall_mem_nil _, List.forall_mem_nil _, List.forall_mem_nil _, List.forall_mem_nil _, GG_pl⟩ (by decide +kernel)
def e_jMath_min1_v138 : en_T := ([(0, 0, 192, []), (0, -736, 576, [])], some (0, -736, 192, []), true, 1, 0, 0, [], [], (0, [], [], [], []))
def n_jMath_min1_v138_an : List an_T := []
def t_jMath_min1_v138_ct : ct_L := []
set_option maxRecDepth 100000 in
theorem c_jMath_min1_v138 {l : Launch} {D : va_G} {kA : Nat → ClassId} : ct_ok l D kA GG y_jMath_min1 z_jMath_min1 e_jMath_min1_v138 := chk_all_ok (FT := []) (PT := []) (CT := t_jMath_min1_v138_ct) (KT := []) (NT := []) (AN := n_jMath_min1_v138_an) (OT := []) 0 200 (List.forall_mem_nil _) (pl_Math rfl (by decide)) ⟨List.forall_mem_nil _, List.forall_mem_nil _, List.forall_mem_nil _, List.forall_mem_nil _, List.forall_mem_nil _, GG_pl⟩ (by decide +kernel)
def e_jMath_max1_v139 : en_T := ([(0, 0, 0, []), (0, -736, 192, [])], some (0, 0, 192, []), true, 1, 0, 0, [], [], (0, [], [], [], []))
def n_jMath_max1_v139_an : List an_T := []
def t_jMath_max1_v139_ct : ct_L := []
set_option maxRecDepth 100000 in
theorem c_jMath_max1_v139 {l : Launch} {D : va_G} {kA : Nat → ClassId} : ct_ok l D kA GG y_jMath_max1 z_jMath_max1 e_jMath_max1_v139 := chk_all_ok (FT := []) (PT := []) (CT := t_jMath_max1_v139_ct) (KT := []) (NT := []) (AN := n_jMath_max1_v139_an) (OT := []) 0 200 (List.forall_mem_nil _) (pl_Math rfl (by decide)) ⟨List.forall_mem_nil _, List.forall_mem_nil _, List.forall_mem_nil _, List.forall_mem_nil _, List.forall_mem_nil _, GG_pl⟩ (by decide +kernel)
def e_jMath_min1_v140 : en_T := ([(0, -192, 736, []), (0, 0, 192, [])], some (0, -192, 192, []), true, 1, 0, 0, [], [], (0, [], [], [], []))
def n_jMath_min1_v140_an : List an_T := []
def t_jMath_min1_v140_ct : ct_L := []
set_option maxRecDepth 100000 in
theorem c_jMath_min1_v140 {l : Launch} {D : va_G} {kA : Nat → ClassId} : ct_ok l D kA GG y_jMath_min1 z_jMath_min1 e_jMath_min1_v140 := chk_all_ok (FT := []) (PT := []) (CT := t_jMath_min1_v140_ct) (KT := []) (NT := []) (AN := n_jMath_min1_v140_an) (OT := []) 0 200 (List.forall_mem_nil _) (pl_Math rfl (by decide)) ⟨List.forall_mem_nil _, List.forall_mem_nil _, List.forall_mem_nil _, List.forall_mem_nil _, List.forall_mem_nil _, GG_pl⟩ (by decide +kernel)
def e_jMath_min1_v141 : en_T := ([(0, -192, 192, []), (0, -736, 768, [])], some (0, -736, 192, []), true, 1, 0, 0, [], [], (0, [], [], [], []))
def n_jMath_min1_v141_an : List an_T := []
def t_jMath_min1_v141_ct : ct_L := []
set_option maxRecDepth 100000 in
theorem c_jMath_min1_v141 {l : Launch} {D : va_G} {kA : Nat → ClassId} : ct_ok l D kA GG y_jMath_min1 z_jMath_min1 e_jMath_min1_v141 := chk_all_ok (FT := []) (PT := []) (CT := t_jMath_min1_v141_ct) (KT := []) (NT := []) (AN := n_jMath_min1_v141_an) (OT := []) 0 200 (List.forall_mem_nil _) (pl_Math rfl (by decide)) ⟨List.forall_mem_nil _, List.forall_mem_nil _, List.forall_mem_nil _, List.forall_mem_nil _, List.forall_mem_nil _, GG_pl⟩ (by decide +kernel)
def e_jStr_isLatin1_v143 : en_T := ([(2, 0, 0, ro_strs)], some (0, 1, 1, []), true, 1, 0, 0, [], [], (0, [], [], [], []))
def n_jStr_isLatin1_v143_an : List an_T := []
def t_jStr_isLatin1_v143_ct : ct_L := [(1000002, 38, en_ro [] (0, 1, 1, [])), (1000003, 15, en_ro [(2, 0, 0, ro_strs)] (0, 0, 0, []))]
set_option maxRecDepth 100000 in
theorem c_jStr_isLatin1_v143 {l : Launch} {D : va_G} {kA : Nat → ClassId} : ct_ok l D kA GG y_jStr_isLatin1 z_jStr_isLatin1 e_jStr_isLatin1_v143 := chk_all_ok (FT := []) (PT := []) (CT := t_jStr_isLatin1_v143_ct) (KT := []) (NT := []) (AN := n_jStr_isLatin1_v143_an) (OT := []) 0 200 (List.forall_mem_nil _) (by decide +kernel) ⟨List.forall_mem_nil _, List.forall_mem_nil _, List.forall_mem_cons.mpr ⟨cl_compact wm_679, List.forall_mem_cons.mpr ⟨cl_coderS wm_3970 (by decide +kernel), List.forall_mem_nil _⟩⟩, List.forall_mem_nil _, List.forall_mem_nil _, GG_pl⟩ (by decide +kernel)
def e_jPre_checkIndex_v146 : en_T := ([(0, 0, 38, []), (0, 39, 39, []), (3, 0, 0, ro_ids)], some (0, 0, 38, []), true, 1, 0, 0, [], [], (0, [], [], [], []))
def n_jPre_checkIndex_v146_an : List an_T := []
def t_jPre_checkIndex_v146_ct : ct_L := []
set_option maxRecDepth 100000 in
theorem c_jPre_checkIndex_v146 {l : Launch} {D : va_G} {kA : Nat → ClassId} : ct_ok l D kA GG y_jPre_checkIndex z_jPre_checkIndex e_jPre_checkIndex_v146 := chk_all_ok (FT := []) (PT := []) (CT := t_jPre_checkIndex_v146_ct) (KT := []) (NT := []) (AN := n_jPre_checkIndex_v146_an) (OT := []) 0 200 (List.forall_mem_nil _) (by decide +kernel) ⟨List.forall_mem_nil _, List.forall_mem_nil _, List.forall_mem_nil _, List.forall_mem_nil _, List.forall_mem_nil _, GG_pl⟩ (by decide +kernel)
def e_jPre_checkIndex_v150 : en_T := ([(0, 0, 9, []), (0, 10, 10, []), (3, 0, 0, ro_ids)], some (0, 0, 9, []), true, 1, 0, 0, [], [], (0, [], [], [], []))
def n_jPre_checkIndex_v150_an : List an_T := []
def t_jPre_checkIndex_v150_ct : ct_L := []
set_option maxRecDepth 100000 in
theorem c_jPre_checkIndex_v150 {l : Launch} {D : va_G} {kA : Nat → ClassId} : ct_ok l D kA GG y_jPre_checkIndex z_jPre_checkIndex e_jPre_checkIndex_v150 := chk_all_ok (FT := []) (PT := []) (CT := t_jPre_checkIndex_v150_ct) (KT := []) (NT := []) (AN := n_jPre_checkIndex_v150_an) (OT := []) 0 200 (List.forall_mem_nil _) (by decide +kernel) ⟨List.forall_mem_nil _, List.forall_mem_nil _, List.forall_mem_nil _, List.forall_mem_nil _, List.forall_mem_nil _, GG_pl⟩ (by decide +kernel)
def e_jPre_checkIndex_v154 : en_T := ([(0, 0, 43, []), (0, 44, 44, []), (3, 0, 0, ro_ids)], some (0, 0, 43, []), true, 1, 0, 0, [], [], (0, [], [], [], []))
def n_jPre_checkIndex_v154_an : List an_T := []
def t_jPre_checkIndex_v154_ct : ct_L := []
set_option maxRecDepth 100000 in
theorem c_jPre_checkIndex_v154 {l : Launch} {D : va_G} {kA : Nat → ClassId} : ct_ok l D kA GG y_jPre_checkIndex z_jPre_checkIndex e_jPre_checkIndex_v154 := chk_all_ok (FT := []) (PT := []) (CT := t_jPre_checkIndex_v154_ct) (KT := []) (NT := []) (AN := n_jPre_checkIndex_v154_an) (OT := []) 0 200 (List.forall_mem_nil _) (by decide +kernel) ⟨List.forall_mem_nil _, List.forall_mem_nil _, List.forall_mem_nil _, List.forall_mem_nil _, List.forall_mem_nil _, GG_pl⟩ (by decide +kernel)
def e_jPre_checkIndex_v158 : en_T := ([(0, 0, 2, []), (0, 3, 3, []), (3, 0, 0, ro_ids)], some (0, 0, 2, []), true, 1, 0, 0, [], [], (0, [], [], [], []))
def n_jPre_checkIndex_v158_an : List an_T := []
def t_jPre_checkIndex_v158_ct : ct_L := []
set_option maxRecDepth 100000 in
theorem c_jPre_checkIndex_v158 {l : Launch} {D : va_G} {kA : Nat → ClassId} : ct_ok l D kA GG y_jPre_checkIndex z_jPre_checkIndex e_jPre_checkIndex_v158 := chk_all_ok (FT := []) (PT := []) (CT := t_jPre_checkIndex_v158_ct) (KT := []) (NT := []) (AN := n_jPre_checkIndex_v158_an) (OT := []) 0 200 (List.forall_mem_nil _) (by decide +kernel) ⟨List.forall_mem_nil _, List.forall_mem_nil _, List.forall_mem_nil _, List.forall_mem_nil _, List.forall_mem_nil _, GG_pl⟩ (by decide +kernel)
def e_jPre_checkIndex_v162 : en_T := ([(0, 0, 3, []), (0, 4, 4, []), (3, 0, 0, ro_ids)], some (0, 0, 3, []), true, 1, 0, 0, [], [], (0, [], [], [], []))
def n_jPre_checkIndex_v162_an : List an_T := []
def t_jPre_checkIndex_v162_ct : ct_L := []
set_option maxRecDepth 100000 in
theorem c_jPre_checkIndex_v162 {l : Launch} {D : va_G} {kA : Nat → ClassId} : ct_ok l D kA GG y_jPre_checkIndex z_jPre_checkIndex e_jPre_checkIndex_v162 := chk_all_ok (FT := []) (PT := []) (CT := t_jPre_checkIndex_v162_ct) (KT := []) (NT := []) (AN := n_jPre_checkIndex_v162_an) (OT := []) 0 200 (List.forall_mem_nil _) (by decide +kernel) ⟨List.forall_mem_nil _, List.forall_mem_nil _, List.forall_mem_nil _, List.forall_mem_nil _, List.forall_mem_nil _, GG_pl⟩ (by decide +kernel)
def e_jPre_checkIndex_v170 : en_T := ([(0, 0, 16, []), (0, 17, 17, []), (3, 0, 0, ro_ids)], some (0, 0, 16, []), true, 1, 0, 0, [], [], (0, [], [], [], []))
def n_jPre_checkIndex_v170_an : List an_T := []
def t_jPre_checkIndex_v170_ct : ct_L := []
set_option maxRecDepth 100000 in
theorem c_jPre_checkIndex_v170 {l : Launch} {D : va_G} {kA : Nat → ClassId} : ct_ok l D kA GG y_jPre_checkIndex z_jPre_checkIndex e_jPre_checkIndex_v170 := chk_all_ok (FT := []) (PT := []) (CT := t_jPre_checkIndex_v170_ct) (KT := []) (NT := []) (AN := n_jPre_checkIndex_v170_an) (OT := []) 0 200 (List.forall_mem_nil _) (by decide +kernel) ⟨List.forall_mem_nil _, List.forall_mem_nil _, List.forall_mem_nil _, List.forall_mem_nil _, List.forall_mem_nil _, GG_pl⟩ (by decide +kernel)
def e_jStr_coder_v172 : en_T := ([(2, 0, 0, ro_strs)], some (0, 0, 0, []), true, 1, 0, 0, [], [], (0, [], [], [], []))
def n_jStr_coder_v172_an : List an_T := []
def t_jStr_coder_v172_ct : ct_L := [(1000002, 38, en_ro [] (0, 1, 1, [])), (1000003, 15, en_ro [(2, 0, 0, ro_strs)] (0, 0, 0, []))]
set_option maxRecDepth 100000 in
theorem c_jStr_coder_v172 {l : Launch} {D : va_G} {kA : Nat → ClassId} : ct_ok l D kA GG y_jStr_coder z_jStr_coder e_jStr_coder_v172 := chk_all_ok (FT := []) (PT := []) (CT := t_jStr_coder_v172_ct) (KT := []) (NT := []) (AN := n_jStr_coder_v172_an) (OT := []) 0 200 (List.forall_mem_nil _) (by decide +kernel) ⟨List.forall_mem_nil _, List.forall_mem_nil _, List.forall_mem_cons.mpr ⟨cl_compact wm_679, List.forall_mem_cons.mpr ⟨cl_coderS wm_3970 (by decide +kernel), List.forall_mem_nil _⟩⟩, List.forall_mem_nil _, List.forall_mem_nil _, GG_pl⟩ (by decide +kernel)
def e_jPre_checkIndex_v179 : en_T := ([(0, 0, 4, []), (0, 5, 5, []), (3, 0, 0, ro_ids)], some (0, 0, 4, []), true, 1, 0, 0, [], [], (0, [], [], [], []))
def n_jPre_checkIndex_v179_an : List an_T := []
def t_jPre_checkIndex_v179_ct : ct_L := []
set_option maxRecDepth 100000 in
theorem c_jPre_checkIndex_v179 {l : Launch} {D : va_G} {kA : Nat → ClassId} : ct_ok l D kA GG y_jPre_checkIndex z_jPre_checkIndex e_jPre_checkIndex_v179 := chk_all_ok (FT := []) (PT := []) (CT := t_jPre_checkIndex_v179_ct) (KT := []) (NT := []) (AN := n_jPre_checkIndex_v179_an) (OT := []) 0 200 (List.forall_mem_nil _) (by decide +kernel) ⟨List.forall_mem_nil _, List.forall_mem_nil _, List.forall_mem_nil _, List.forall_mem_nil _, List.forall_mem_nil _, GG_pl⟩ (by decide +kernel)
def e_jPre_checkIndex_v187 : en_T := ([(0, 0, 5, []), (0, 6, 6, []), (3, 0, 0, ro_ids)], some (0, 0, 5, []), true, 1, 0, 0, [], [], (0, [], [], [], []))
def n_jPre_checkIndex_v187_an : List an_T := []
def t_jPre_checkIndex_v187_ct : ct_L := []
set_option maxRecDepth 100000 in
theorem c_jPre_checkIndex_v187 {l : Launch} {D : va_G} {kA : Nat → ClassId} : ct_ok l D kA GG y_jPre_checkIndex z_jPre_checkIndex e_jPre_checkIndex_v187 := chk_all_ok (FT := []) (PT := []) (CT := t_jPre_checkIndex_v187_ct) (KT := []) (NT := []) (AN := n_jPre_checkIndex_v187_an) (OT := []) 0 200 (List.forall_mem_nil _) (by decide +kernel) ⟨List.forall_mem_nil _, List.forall_mem_nil _, List.forall_mem_nil _, List.forall_mem_nil _, List.forall_mem_nil _, GG_pl⟩ (by decide +kernel)
def e_jPre_checkIndex_v195 : en_T := ([(0, 0, 6, []), (0, 7, 7, []), (3, 0, 0, ro_ids)], some (0, 0, 6, []), true, 1, 0, 0, [], [], (0, [], [], [], []))
def n_jPre_checkIndex_v195_an : List an_T := []
def t_jPre_checkIndex_v195_ct : ct_L := []
set_option maxRecDepth 100000 in
theorem c_jPre_checkIndex_v195 {l : Launch} {D : va_G} {kA : Nat → ClassId} : ct_ok l D kA GG y_jPre_checkIndex z_jPre_checkIndex e_jPre_checkIndex_v195 := chk_all_ok (FT := []) (PT := []) (CT := t_jPre_checkIndex_v195_ct) (KT := []) (NT := []) (AN := n_jPre_checkIndex_v195_an) (OT := []) 0 200 (List.forall_mem_nil _) (by decide +kernel) ⟨List.forall_mem_nil _, List.forall_mem_nil _, List.forall_mem_nil _, List.forall_mem_nil _, List.forall_mem_nil _, GG_pl⟩ (by decide +kernel)
def e_jPre_checkIndex_v200 : en_T := ([(0, 0, 1, []), (0, 2, 2, []), (3, 0, 0, ro_ids)], some (0, 0, 1, []), true, 1, 0, 0, [], [], (0, [], [], [], []))
def n_jPre_checkIndex_v200_an : List an_T := []
def t_jPre_checkIndex_v200_ct : ct_L := []
set_option maxRecDepth 100000 in
theorem c_jPre_checkIndex_v200 {l : Launch} {D : va_G} {kA : Nat → ClassId} : ct_ok l D kA GG y_jPre_checkIndex z_jPre_checkIndex e_jPre_checkIndex_v200 := chk_all_ok (FT := []) (PT := []) (CT := t_jPre_checkIndex_v200_ct) (KT := []) (NT := []) (AN := n_jPre_checkIndex_v200_an) (OT := []) 0 200 (List.forall_mem_nil _) (by decide +kernel) ⟨List.forall_mem_nil _, List.forall_mem_nil _, List.forall_mem_nil _, List.forall_mem_nil _, List.forall_mem_nil _, GG_pl⟩ (by decide +kernel)
def e_jPre_checkIndex_v220 : en_T := ([(0, 0, 8, []), (0, 9, 9, []), (3, 0, 0, ro_ids)], some (0, 0, 8, []), true, 1, 0, 0, [], [], (0, [], [], [], []))
def n_jPre_checkIndex_v220_an : List an_T := []
def t_jPre_checkIndex_v220_ct : ct_L := []
set_option maxRecDepth 100000 in
theorem c_jPre_checkIndex_v220 {l : Launch} {D : va_G} {kA : Nat → ClassId} : ct_ok l D kA GG y_jPre_checkIndex z_jPre_checkIndex e_jPre_checkIndex_v220 := chk_all_ok (FT := []) (PT := []) (CT := t_jPre_checkIndex_v220_ct) (KT := []) (NT := []) (AN := n_jPre_checkIndex_v220_an) (OT := []) 0 200 (List.forall_mem_nil _) (by decide +kernel) ⟨List.forall_mem_nil _, List.forall_mem_nil _, List.forall_mem_nil _, List.forall_mem_nil _, List.forall_mem_nil _, GG_pl⟩ (by decide +kernel)
def e_jLat_canEncode_v225 : en_T := ([(0, 0, 65535, [])], some (0, 0, 1, []), true, 1, 0, 0, [], [], (0, [], [], [], []))
def n_jLat_canEncode_v225_an : List an_T := []
def t_jLat_canEncode_v225_ct : ct_L := []
set_option maxRecDepth 100000 in
theorem c_jLat_canEncode_v225 {l : Launch} {D : va_G} {kA : Nat → ClassId} : ct_ok l D kA GG y_jLat_canEncode z_jLat_canEncode e_jLat_canEncode_v225 := chk_all_ok (FT := []) (PT := []) (CT := t_jLat_canEncode_v225_ct) (KT := []) (NT := []) (AN := n_jLat_canEncode_v225_an) (OT := []) 0 200 (List.forall_mem_nil _) (by decide +kernel) ⟨List.forall_mem_nil _, List.forall_mem_nil _, List.forall_mem_nil _, List.forall_mem_nil _, List.forall_mem_nil _, GG_pl⟩ (by decide +kernel)
def e_jMath_min1_v226 : en_T := ([(0, 14, 14, []), (0, 14, 14, [])], some (0, 14, 14, []), true, 1, 0, 0, [], [], (0, [], [], [], []))
def n_jMath_min1_v226_an : List an_T := []
def t_jMath_min1_v226_ct : ct_L := []
set_option maxRecDepth 100000 in
theorem c_jMath_min1_v226 {l : Launch} {D : va_G} {kA : Nat → ClassId} : ct_ok l D kA GG y_jMath_min1 z_jMath_min1 e_jMath_min1_v226 := chk_all_ok (FT := []) (PT := []) (CT := t_jMath_min1_v226_ct) (KT := []) (NT := []) (AN := n_jMath_min1_v226_an) (OT := []) 0 200 (List.forall_mem_nil _) (pl_Math rfl (by decide)) ⟨List.forall_mem_nil _, List.forall_mem_nil _, List.forall_mem_nil _, List.forall_mem_nil _, List.forall_mem_nil _, GG_pl⟩ (by decide +kernel)
def e_jLat_indexOfChar_v227 : en_T := ([(2, 0, 0, [5205]), (0, 0, 65535, []), (0, 0, 0, []), (0, 14, 14, [])], some (0, -1, 13, []), true, 1, 0, 0, [], [], (0, [], [], [], []))
def n_jLat_indexOfChar_v227_an : List an_T := [(7, [(0, (2, 0, 0, [5205])), (1, (0, 0, 65535, [])), (2, (0, 0, 0, [])), (3, (0, 14, 14, [])), (4, (0, -128, 127, [])), (5, (0, 0, 14, []))], [], (0, 0), [(0, 0, 99993), (1, 5, 14), (0, 0, 100000)], [], [], [], 0, [], [])]
def t_jLat_indexOfChar_v227_ct : ct_L := [(1000005, 0, en_ro [(2, 0, 0, [5205]), (0, 0, 13, [])] (0, 40, 125, []))]
set_option maxRecDepth 100000 in
theorem c_jLat_indexOfChar_v227 {l : Launch} {D : va_G} {kA : Nat → ClassId} : ct_ok l D kA GG y_jLat_indexOfChar z_jLat_indexOfChar e_jLat_indexOfChar_v227 := chk_all_ok (FT := []) (PT := []) (CT := t_jLat_indexOfChar_v227_ct) (KT := []) (NT := []) (AN := n_jLat_indexOfChar_v227_an) (OT := []) 3 200 (List.forall_mem_nil _) (by decide +kernel) ⟨List.forall_mem_nil _, List.forall_mem_nil _, List.forall_mem_cons.mpr ⟨cl_tbyte (i := 5) (n := 14) rfl (by decide +kernel) (by decide +kernel) (by decide +kernel) (by decide +kernel), List.forall_mem_nil _⟩, List.forall_mem_nil _, List.forall_mem_nil _, GG_pl⟩ (by decide +kernel)
def e_jPre_checkIndex_v267 : en_T := ([(0, 0, 0, []), (0, 1, 1, []), (3, 0, 0, ro_ids)], some (0, 0, 0, []), true, 1, 0, 0, [], [], (0, [], [], [], []))
def n_jPre_checkIndex_v267_an : List an_T := []
def t_jPre_checkIndex_v267_ct : ct_L := []
set_option maxRecDepth 100000 in
theorem c_jPre_checkIndex_v267 {l : Launch} {D : va_G} {kA : Nat → ClassId} : ct_ok l D kA GG y_jPre_checkIndex z_jPre_checkIndex e_jPre_checkIndex_v267 := chk_all_ok (FT := []) (PT := []) (CT := t_jPre_checkIndex_v267_ct) (KT := []) (NT := []) (AN := n_jPre_checkIndex_v267_an) (OT := []) 0 200 (List.forall_mem_nil _) (by decide +kernel) ⟨List.forall_mem_nil _, List.forall_mem_nil _, List.forall_mem_nil _, List.forall_mem_nil _, List.forall_mem_nil _, GG_pl⟩ (by decide +kernel)
def e_jArr_fill1_v310 : en_T := ([(2, 0, 0, [22]), (0, 0, 0, [])], none, false, 1, 0, 0, [], [], (4194304, [], [], [], []))
def n_jArr_fill1_v310_an : List an_T := [(5, [(0, (2, 0, 0, [22])), (1, (0, 0, 0, [])), (2, (0, 0, 128, [])), (3, (0, 128, 128, []))], [], (0, 0), [(0, 0, 99995), (1, 2, 128), (0, 0, 100000)], [], [], [], 0, [], [])]
def t_jArr_fill1_v310_ct : ct_L := []
set_option maxRecDepth 100000 in
theorem c_jArr_fill1_v310 {l : Launch} {D : va_G} {kA : Nat → ClassId} : ct_ok l D kA GG y_jArr_fill1 z_jArr_fill1 e_jArr_fill1_v310 := chk_all_ok (FT := []) (PT := []) (CT := t_jArr_fill1_v310_ct) (KT := []) (NT := []) (AN := n_jArr_fill1_v310_an) (OT := []) 3 200 (List.forall_mem_nil _) (by decide +kernel) ⟨List.forall_mem_nil _, List.forall_mem_nil _, List.forall_mem_nil _, List.forall_mem_nil _, List.forall_mem_nil _, GG_pl⟩ (by decide +kernel)
def e_jArr_fill1_v311 : en_T := ([(2, 0, 0, [138]), (0, 0, 0, [])], none, false, 1, 0, 0, [], [], (348449143727040986586495598010130648530944, [], [], [], []))
def n_jArr_fill1_v311_an : List an_T := [(5, [(0, (2, 0, 0, [138])), (1, (0, 0, 0, [])), (2, (0, 0, 4096, [])), (3, (0, 4096, 4096, []))], [], (0, 0), [(0, 0, 99995), (1, 2, 4096), (0, 0, 100000)], [], [], [], 0, [], [])]
def t_jArr_fill1_v311_ct : ct_L := []
set_option maxRecDepth 100000 in
theorem c_jArr_fill1_v311 {l : Launch} {D : va_G} {kA : Nat → ClassId} : ct_ok l D kA GG y_jArr_fill1 z_jArr_fill1 e_jArr_fill1_v311 := chk_all_ok (FT := []) (PT := []) (CT := t_jArr_fill1_v311_ct) (KT := []) (NT := []) (AN := n_jArr_fill1_v311_an) (OT := []) 3 200 (List.forall_mem_nil _) (by decide +kernel) ⟨List.forall_mem_nil _, List.forall_mem_nil _, List.forall_mem_nil _, List.forall_mem_nil _, List.forall_mem_nil _, GG_pl⟩ (by decide +kernel)
def e_jMath_max1_v312 : en_T := ([(0, 0, 0, []), (0, -2147483648, 2147483647, [])], some (0, 0, 2147483647, []), true, 1, 0, 0, [], [], (0, [], [], [], []))
def n_jMath_max1_v312_an : List an_T := []
def t_jMath_max1_v312_ct : ct_L := []
set_option maxRecDepth 100000 in
theorem c_jMath_max1_v312 {l : Launch} {D : va_G} {kA : Nat → ClassId} : ct_ok l D kA GG y_jMath_max1 z_jMath_max1 e_jMath_max1_v312 := chk_all_ok (FT := []) (PT := []) (CT := t_jMath_max1_v312_ct) (KT := []) (NT := []) (AN := n_jMath_max1_v312_an) (OT := []) 0 200 (List.forall_mem_nil _) (pl_Math rfl (by decide)) ⟨List.forall_mem_nil _, List.forall_mem_nil _, List.forall_mem_nil _, List.forall_mem_nil _, List.forall_mem_nil _, GG_pl⟩ (by decide +kernel)
def e_jMath_max1_v313 : en_T := ([(0, 0, 2147483647, []), (0, -2147483648, 2147483647, [])], some (0, 0, 2147483647, []), true, 1, 0, 0, [], [], (0, [], [], [], []))
def n_jMath_max1_v313_an : List an_T := []
def t_jMath_max1_v313_ct : ct_L := []
set_option maxRecDepth 100000 in
theorem c_jMath_max1_v313 {l : Launch} {D : va_G} {kA : Nat → ClassId} : ct_ok l D kA GG y_jMath_max1 z_jMath_max1 e_jMath_max1_v313 := chk_all_ok (FT := []) (PT := []) (CT := t_jMath_max1_v313_ct) (KT := []) (NT := []) (AN := n_jMath_max1_v313_an) (OT := []) 0 200 (List.forall_mem_nil _) (pl_Math rfl (by decide)) ⟨List.forall_mem_nil _, List.forall_mem_nil _, List.forall_mem_nil _, List.forall_mem_nil _, List.forall_mem_nil _, GG_pl⟩ (by decide +kernel)
def e_jStr_checkIndex_v145 : en_T := ([(0, 0, 38, []), (0, 39, 39, [])], none, true, 2, 0, 0, [], [], (0, [], [], [], []))
def n_jStr_checkIndex_v145_an : List an_T := []
def t_jStr_checkIndex_v145_ct : ct_L := [(18, 1059, e_jPre_checkIndex_v146), (1000002, 1053, en_ro [] (3, 0, 0, ro_ids))]
set_option maxRecDepth 100000 in
theorem c_jStr_checkIndex_v145 {l : Launch} {D : va_G} {kA : Nat → ClassId} : ct_ok l D kA GG y_jStr_checkIndex z_jStr_checkIndex e_jStr_checkIndex_v145 := chk_all_ok (FT := []) (PT := []) (CT := t_jStr_checkIndex_v145_ct) (KT := []) (NT := []) (AN := n_jStr_checkIndex_v145_an) (OT := []) 0 200 (List.forall_mem_nil _) (by decide +kernel) ⟨List.forall_mem_nil _, List.forall_mem_nil _, List.forall_mem_cons.mpr ⟨cl_static (y := y_jPre_checkIndex) c_jPre_checkIndex_v146 wm_699 wm_13 wm_697 wm_698 ⟨by decide, by decide, by decide +kernel⟩ (by decide), List.forall_mem_cons.mpr ⟨cl_format wm_695, List.forall_mem_nil _⟩⟩, List.forall_mem_nil _, List.forall_mem_nil _, GG_pl⟩ (by decide +kernel)
def e_jStr_checkIndex_v149 : en_T := ([(0, 0, 9, []), (0, 10, 10, [])], none, true, 2, 0, 0, [], [], (0, [], [], [], []))
def n_jStr_checkIndex_v149_an : List an_T := []
def t_jStr_checkIndex_v149_ct : ct_L := [(18, 1059, e_jPre_checkIndex_v150), (1000002, 1053, en_ro [] (3, 0, 0, ro_ids))]
set_option maxRecDepth 100000 in
theorem c_jStr_checkIndex_v149 {l : Launch} {D : va_G} {kA : Nat → ClassId} : ct_ok l D kA GG y_jStr_checkIndex z_jStr_checkIndex e_jStr_checkIndex_v149 := chk_all_ok (FT := []) (PT := []) (CT := t_jStr_checkIndex_v149_ct) (KT := []) (NT := []) (AN := n_jStr_checkIndex_v149_an) (OT := []) 0 200 (List.forall_mem_nil _) (by decide +kernel) ⟨List.forall_mem_nil _, List.forall_mem_nil _, List.forall_mem_cons.mpr ⟨cl_static (y := y_jPre_checkIndex) c_jPre_checkIndex_v150 wm_699 wm_13 wm_697 wm_698 ⟨by decide, by decide, by decide +kernel⟩ (by decide), List.forall_mem_cons.mpr ⟨cl_format wm_695, List.forall_mem_nil _⟩⟩, List.forall_mem_nil _, List.forall_mem_nil _, GG_pl⟩ (by decide +kernel)
def e_jStr_checkIndex_v153 : en_T := ([(0, 0, 43, []), (0, 44, 44, [])], none, true, 2, 0, 0, [], [], (0, [], [], [], []))
def n_jStr_checkIndex_v153_an : List an_T := []
def t_jStr_checkIndex_v153_ct : ct_L := [(18, 1059, e_jPre_checkIndex_v154), (1000002, 1053, en_ro [] (3, 0, 0, ro_ids))]
set_option maxRecDepth 100000 in
theorem c_jStr_checkIndex_v153 {l : Launch} {D : va_G} {kA : Nat → ClassId} : ct_ok l D kA GG y_jStr_checkIndex z_jStr_checkIndex e_jStr_checkIndex_v153 := chk_all_ok (FT := []) (PT := []) (CT := t_jStr_checkIndex_v153_ct) (KT := []) (NT := []) (AN := n_jStr_checkIndex_v153_an) (OT := []) 0 200 (List.forall_mem_nil _) (by decide +kernel) ⟨List.forall_mem_nil _, List.forall_mem_nil _, List.forall_mem_cons.mpr ⟨cl_static (y := y_jPre_checkIndex) c_jPre_checkIndex_v154 wm_699 wm_13 wm_697 wm_698 ⟨by decide, by decide, by decide +kernel⟩ (by decide), List.forall_mem_cons.mpr ⟨cl_format wm_695, List.forall_mem_nil _⟩⟩, List.forall_mem_nil _, List.forall_mem_nil _, GG_pl⟩ (by decide +kernel)
def e_jStr_checkIndex_v157 : en_T := ([(0, 0, 2, []), (0, 3, 3, [])], none, true, 2, 0, 0, [], [], (0, [], [], [], []))
def n_jStr_checkIndex_v157_an : List an_T := []
def t_jStr_checkIndex_v157_ct : ct_L := [(18, 1059, e_jPre_checkIndex_v158), (1000002, 1053, en_ro [] (3, 0, 0, ro_ids))]
set_option maxRecDepth 100000 in
theorem c_jStr_checkIndex_v157 {l : Launch} {D : va_G} {kA : Nat → ClassId} : ct_ok l D kA GG y_jStr_checkIndex z_jStr_checkIndex e_jStr_checkIndex_v157 := chk_all_ok (FT := []) (PT := []) (CT := t_jStr_checkIndex_v157_ct) (KT := []) (NT := []) (AN := n_jStr_checkIndex_v157_an) (OT := []) 0 200 (List.forall_mem_nil _) (by decide +kernel) ⟨List.forall_mem_nil _, List.forall_mem_nil _, List.forall_mem_cons.mpr ⟨cl_static (y := y_jPre_checkIndex) c_jPre_checkIndex_v158 wm_699 wm_13 wm_697 wm_698 ⟨by decide, by decide, by decide +kernel⟩ (by decide), List.forall_mem_cons.mpr ⟨cl_format wm_695, List.forall_mem_nil _⟩⟩, List.forall_mem_nil _, List.forall_mem_nil _, GG_pl⟩ (by decide +kernel)
def e_jStr_checkIndex_v161 : en_T := ([(0, 0, 3, []), (0, 4, 4, [])], none, true, 2, 0, 0, [], [], (0, [], [], [], []))
def n_jStr_checkIndex_v161_an : List an_T := []
def t_jStr_checkIndex_v161_ct : ct_L := [(18, 1059, e_jPre_checkIndex_v162), (1000002, 1053, en_ro [] (3, 0, 0, ro_ids))]
set_option maxRecDepth 100000 in
theorem c_jStr_checkIndex_v161 {l : Launch} {D : va_G} {kA : Nat → ClassId} : ct_ok l D kA GG y_jStr_checkIndex z_jStr_checkIndex e_jStr_checkIndex_v161 := chk_all_ok (FT := []) (PT := []) (CT := t_jStr_checkIndex_v161_ct) (KT := []) (NT := []) (AN := n_jStr_checkIndex_v161_an) (OT := []) 0 200 (List.forall_mem_nil _) (by decide +kernel) ⟨List.forall_mem_nil _, List.forall_mem_nil _, List.forall_mem_cons.mpr ⟨cl_static (y := y_jPre_checkIndex) c_jPre_checkIndex_v162 wm_699 wm_13 wm_697 wm_698 ⟨by decide, by decide, by decide +kernel⟩ (by decide), List.forall_mem_cons.mpr ⟨cl_format wm_695, List.forall_mem_nil _⟩⟩, List.forall_mem_nil _, List.forall_mem_nil _, GG_pl⟩ (by decide +kernel)
def e_jStr_checkIndex_v169 : en_T := ([(0, 0, 16, []), (0, 17, 17, [])], none, true, 2, 0, 0, [], [], (0, [], [], [], []))
def n_jStr_checkIndex_v169_an : List an_T := []
def t_jStr_checkIndex_v169_ct : ct_L := [(18, 1059, e_jPre_checkIndex_v170), (1000002, 1053, en_ro [] (3, 0, 0, ro_ids))]
set_option maxRecDepth 100000 in
theorem c_jStr_checkIndex_v169 {l : Launch} {D : va_G} {kA : Nat → ClassId} : ct_ok l D kA GG y_jStr_checkIndex z_jStr_checkIndex e_jStr_checkIndex_v169 := chk_all_ok (FT := []) (PT := []) (CT := t_jStr_checkIndex_v169_ct) (KT := []) (NT := []) (AN := n_jStr_checkIndex_v169_an) (OT := []) 0 200 (List.forall_mem_nil _) (by decide +kernel) ⟨List.forall_mem_nil _, List.forall_mem_nil _, List.forall_mem_cons.mpr ⟨cl_static (y := y_jPre_checkIndex) c_jPre_checkIndex_v170 wm_699 wm_13 wm_697 wm_698 ⟨by decide, by decide, by decide +kernel⟩ (by decide), List.forall_mem_cons.mpr ⟨cl_format wm_695, List.forall_mem_nil _⟩⟩, List.forall_mem_nil _, List.forall_mem_nil _, GG_pl⟩ (by decide +kernel)
def e_jStr_length_v171 : en_T := ([(2, 0, 0, [5000])], some (0, 4, 4, []), true, 2, 0, 0, [], [], (0, [], [], [], []))
def n_jStr_length_v171_an : List an_T := []
def t_jStr_length_v171_ct : ct_L := [(22, 335, e_jStr_coder_v172), (1000003, 9, en_ro [(2, 0, 0, [5000])] (2, 0, 0, [5200])), (1000004, 0, en_ro [(2, 0, 0, [5200])] (0, 4, 4, []))]
set_option maxRecDepth 100000 in
theorem c_jStr_length_v171 {l : Launch} {D : va_G} {kA : Nat → ClassId} : ct_ok l D kA GG y_jStr_length z_jStr_length e_jStr_length_v171 := chk_all_ok (FT := []) (PT := []) (CT := t_jStr_length_v171_ct) (KT := []) (NT := []) (AN := n_jStr_length_v171_an) (OT := []) 0 200 (List.forall_mem_nil _) (by decide +kernel) ⟨List.forall_mem_nil _, List.forall_mem_nil _, List.forall_mem_cons.mpr ⟨cl_stringS (y := y_jStr_coder) (rs := ro_strs) rfl (by decide +kernel) rfl c_jStr_coder_v172 wm_678 wm_11 wm_675 wm_676 wm_677 ⟨by decide, by decide, by decide +kernel⟩ (by decide), List.forall_mem_cons.mpr ⟨cl_value (i := 0) wm_3969 rfl (by decide +kernel) (by decide +kernel) (by decide +kernel), List.forall_mem_cons.mpr ⟨cl_tlen (i := 0) (n := 4) rfl (by decide +kernel) (by decide +kernel) (by decide +kernel), List.forall_mem_nil _⟩⟩⟩, List.forall_mem_nil _, List.forall_mem_nil _, GG_pl⟩ (by decide +kernel)
def e_jStr_length_v175 : en_T := ([(2, 0, 0, [5001])], some (0, 5, 5, []), true, 2, 0, 0, [], [], (0, [], [], [], []))
def n_jStr_length_v175_an : List an_T := []
def t_jStr_length_v175_ct : ct_L := [(22, 335, e_jStr_coder_v172), (1000003, 9, en_ro [(2, 0, 0, [5001])] (2, 0, 0, [5201])), (1000004, 0, en_ro [(2, 0, 0, [5201])] (0, 5, 5, []))]
set_option maxRecDepth 100000 in
theorem c_jStr_length_v175 {l : Launch} {D : va_G} {kA : Nat → ClassId} : ct_ok l D kA GG y_jStr_length z_jStr_length e_jStr_length_v175 := chk_all_ok (FT := []) (PT := []) (CT := t_jStr_length_v175_ct) (KT := []) (NT := []) (AN := n_jStr_length_v175_an) (OT := []) 0 200 (List.forall_mem_nil _) (by decide +kernel) ⟨List.forall_mem_nil _, List.forall_mem_nil _, List.forall_mem_cons.mpr ⟨cl_stringS (y := y_jStr_coder) (rs := ro_strs) rfl (by decide +kernel) rfl c_jStr_coder_v172 wm_678 wm_11 wm_675 wm_676 wm_677 ⟨by decide, by decide, by decide +kernel⟩ (by decide), List.forall_mem_cons.mpr ⟨cl_value (i := 1) wm_3969 rfl (by decide +kernel) (by decide +kernel) (by decide +kernel), List.forall_mem_cons.mpr ⟨cl_tlen (i := 1) (n := 5) rfl (by decide +kernel) (by decide +kernel) (by decide +kernel), List.forall_mem_nil _⟩⟩⟩, List.forall_mem_nil _, List.forall_mem_nil _, GG_pl⟩ (by decide +kernel)
def e_jStr_checkIndex_v178 : en_T := ([(0, 0, 4, []), (0, 5, 5, [])], none, true, 2, 0, 0, [], [], (0, [], [], [], []))
def n_jStr_checkIndex_v178_an : List an_T := []
def t_jStr_checkIndex_v178_ct : ct_L := [(18, 1059, e_jPre_checkIndex_v179), (1000002, 1053, en_ro [] (3, 0, 0, ro_ids))]
set_option maxRecDepth 100000 in
theorem c_jStr_checkIndex_v178 {l : Launch} {D : va_G} {kA : Nat → ClassId} : ct_ok l D kA GG y_jStr_checkIndex z_jStr_checkIndex e_jStr_checkIndex_v178 := chk_all_ok (FT := []) (PT := []) (CT := t_jStr_checkIndex_v178_ct) (KT := []) (NT := []) (AN := n_jStr_checkIndex_v178_an) (OT := []) 0 200 (List.forall_mem_nil _) (by decide +kernel) ⟨List.forall_mem_nil _, List.forall_mem_nil _, List.forall_mem_cons.mpr ⟨cl_static (y := y_jPre_checkIndex) c_jPre_checkIndex_v179 wm_699 wm_13 wm_697 wm_698 ⟨by decide, by decide, by decide +kernel⟩ (by decide), List.forall_mem_cons.mpr ⟨cl_format wm_695, List.forall_mem_nil _⟩⟩, List.forall_mem_nil _, List.forall_mem_nil _, GG_pl⟩ (by decide +kernel)
def e_jStr_length_v180 : en_T := ([(2, 0, 0, [5002])], some (0, 4, 4, []), true, 2, 0, 0, [], [], (0, [], [], [], []))
def n_jStr_length_v180_an : List an_T := []
def t_jStr_length_v180_ct : ct_L := [(22, 335, e_jStr_coder_v172), (1000003, 9, en_ro [(2, 0, 0, [5002])] (2, 0, 0, [5202])), (1000004, 0, en_ro [(2, 0, 0, [5202])] (0, 4, 4, []))]
set_option maxRecDepth 100000 in
theorem c_jStr_length_v180 {l : Launch} {D : va_G} {kA : Nat → ClassId} : ct_ok l D kA GG y_jStr_length z_jStr_length e_jStr_length_v180 := chk_all_ok (FT := []) (PT := []) (CT := t_jStr_length_v180_ct) (KT := []) (NT := []) (AN := n_jStr_length_v180_an) (OT := []) 0 200 (List.forall_mem_nil _) (by decide +kernel) ⟨List.forall_mem_nil _, List.forall_mem_nil _, List.forall_mem_cons.mpr ⟨cl_stringS (y := y_jStr_coder) (rs := ro_strs) rfl (by decide +kernel) rfl c_jStr_coder_v172 wm_678 wm_11 wm_675 wm_676 wm_677 ⟨by decide, by decide, by decide +kernel⟩ (by decide), List.forall_mem_cons.mpr ⟨cl_value (i := 2) wm_3969 rfl (by decide +kernel) (by decide +kernel) (by decide +kernel), List.forall_mem_cons.mpr ⟨cl_tlen (i := 2) (n := 4) rfl (by decide +kernel) (by decide +kernel) (by decide +kernel), List.forall_mem_nil _⟩⟩⟩, List.forall_mem_nil _, List.forall_mem_nil _, GG_pl⟩ (by decide +kernel)
def e_jStr_length_v183 : en_T := ([(2, 0, 0, [5003])], some (0, 6, 6, []), true, 2, 0, 0, [], [], (0, [], [], [], []))
def n_jStr_length_v183_an : List an_T := []
def t_jStr_length_v183_ct : ct_L := [(22, 335, e_jStr_coder_v172), (1000003, 9, en_ro [(2, 0, 0, [5003])] (2, 0, 0, [5203])), (1000004, 0, en_ro [(2, 0, 0, [5203])] (0, 6, 6, []))]
set_option maxRecDepth 100000 in
theorem c_jStr_length_v183 {l : Launch} {D : va_G} {kA : Nat → ClassId} : ct_ok l D kA GG y_jStr_length z_jStr_length e_jStr_length_v183 := chk_all_ok (FT := []) (PT := []) (CT := t_jStr_length_v183_ct) (KT := []) (NT := []) (AN := n_jStr_length_v183_an) (OT := []) 0 200 (List.forall_mem_nil _) (by decide +kernel) ⟨List.forall_mem_nil _, List.forall_mem_nil _, List.forall_mem_cons.mpr ⟨cl_stringS (y := y_jStr_coder) (rs := ro_strs) rfl (by decide +kernel) rfl c_jStr_coder_v172 wm_678 wm_11 wm_675 wm_676 wm_677 ⟨by decide, by decide, by decide +kernel⟩ (by decide), List.forall_mem_cons.mpr ⟨cl_value (i := 3) wm_3969 rfl (by decide +kernel) (by decide +kernel) (by decide +kernel), List.forall_mem_cons.mpr ⟨cl_tlen (i := 3) (n := 6) rfl (by decide +kernel) (by decide +kernel) (by decide +kernel), List.forall_mem_nil _⟩⟩⟩, List.forall_mem_nil _, List.forall_mem_nil _, GG_pl⟩ (by decide +kernel)
def e_jStr_checkIndex_v186 : en_T := ([(0, 0, 5, []), (0, 6, 6, [])], none, true, 2, 0, 0, [], [], (0, [], [], [], []))
def n_jStr_checkIndex_v186_an : List an_T := []
def t_jStr_checkIndex_v186_ct : ct_L := [(18, 1059, e_jPre_checkIndex_v187), (1000002, 1053, en_ro [] (3, 0, 0, ro_ids))]
set_option maxRecDepth 100000 in
theorem c_jStr_checkIndex_v186 {l : Launch} {D : va_G} {kA : Nat → ClassId} : ct_ok l D kA GG y_jStr_checkIndex z_jStr_checkIndex e_jStr_checkIndex_v186 := chk_all_ok (FT := []) (PT := []) (CT := t_jStr_checkIndex_v186_ct) (KT := []) (NT := []) (AN := n_jStr_checkIndex_v186_an) (OT := []) 0 200 (List.forall_mem_nil _) (by decide +kernel) ⟨List.forall_mem_nil _, List.forall_mem_nil _, List.forall_mem_cons.mpr ⟨cl_static (y := y_jPre_checkIndex) c_jPre_checkIndex_v187 wm_699 wm_13 wm_697 wm_698 ⟨by decide, by decide, by decide +kernel⟩ (by decide), List.forall_mem_cons.mpr ⟨cl_format wm_695, List.forall_mem_nil _⟩⟩, List.forall_mem_nil _, List.forall_mem_nil _, GG_pl⟩ (by decide +kernel)
def e_jStr_length_v188 : en_T := ([(2, 0, 0, [5013])], some (0, 5, 5, []), true, 2, 0, 0, [], [], (0, [], [], [], []))
def n_jStr_length_v188_an : List an_T := []
def t_jStr_length_v188_ct : ct_L := [(22, 335, e_jStr_coder_v172), (1000003, 9, en_ro [(2, 0, 0, [5013])] (2, 0, 0, [5213])), (1000004, 0, en_ro [(2, 0, 0, [5213])] (0, 5, 5, []))]
set_option maxRecDepth 100000 in
theorem c_jStr_length_v188 {l : Launch} {D : va_G} {kA : Nat → ClassId} : ct_ok l D kA GG y_jStr_length z_jStr_length e_jStr_length_v188 := chk_all_ok (FT := []) (PT := []) (CT := t_jStr_length_v188_ct) (KT := []) (NT := []) (AN := n_jStr_length_v188_an) (OT := []) 0 200 (List.forall_mem_nil _) (by decide +kernel) ⟨List.forall_mem_nil _, List.forall_mem_nil _, List.forall_mem_cons.mpr ⟨cl_stringS (y := y_jStr_coder) (rs := ro_strs) rfl (by decide +kernel) rfl c_jStr_coder_v172 wm_678 wm_11 wm_675 wm_676 wm_677 ⟨by decide, by decide, by decide +kernel⟩ (by decide), List.forall_mem_cons.mpr ⟨cl_value (i := 13) wm_3969 rfl (by decide +kernel) (by decide +kernel) (by decide +kernel), List.forall_mem_cons.mpr ⟨cl_tlen (i := 13) (n := 5) rfl (by decide +kernel) (by decide +kernel) (by decide +kernel), List.forall_mem_nil _⟩⟩⟩, List.forall_mem_nil _, List.forall_mem_nil _, GG_pl⟩ (by decide +kernel)
def e_jStr_length_v191 : en_T := ([(2, 0, 0, [5014])], some (0, 7, 7, []), true, 2, 0, 0, [], [], (0, [], [], [], []))
def n_jStr_length_v191_an : List an_T := []
def t_jStr_length_v191_ct : ct_L := [(22, 335, e_jStr_coder_v172), (1000003, 9, en_ro [(2, 0, 0, [5014])] (2, 0, 0, [5214])), (1000004, 0, en_ro [(2, 0, 0, [5214])] (0, 7, 7, []))]
set_option maxRecDepth 100000 in
theorem c_jStr_length_v191 {l : Launch} {D : va_G} {kA : Nat → ClassId} : ct_ok l D kA GG y_jStr_length z_jStr_length e_jStr_length_v191 := chk_all_ok (FT := []) (PT := []) (CT := t_jStr_length_v191_ct) (KT := []) (NT := []) (AN := n_jStr_length_v191_an) (OT := []) 0 200 (List.forall_mem_nil _) (by decide +kernel) ⟨List.forall_mem_nil _, List.forall_mem_nil _, List.forall_mem_cons.mpr ⟨cl_stringS (y := y_jStr_coder) (rs := ro_strs) rfl (by decide +kernel) rfl c_jStr_coder_v172 wm_678 wm_11 wm_675 wm_676 wm_677 ⟨by decide, by decide, by decide +kernel⟩ (by decide), List.forall_mem_cons.mpr ⟨cl_value (i := 14) wm_3969 rfl (by decide +kernel) (by decide +kernel) (by decide +kernel), List.forall_mem_cons.mpr ⟨cl_tlen (i := 14) (n := 7) rfl (by decide +kernel) (by decide +kernel) (by decide +kernel), List.forall_mem_nil _⟩⟩⟩, List.forall_mem_nil _, List.forall_mem_nil _, GG_pl⟩ (by decide +kernel)
def e_jStr_checkIndex_v194 : en_T := ([(0, 0, 6, []), (0, 7, 7, [])], none, true, 2, 0, 0, [], [], (0, [], [], [], []))
def n_jStr_checkIndex_v194_an : List an_T := []
def t_jStr_checkIndex_v194_ct : ct_L := [(18, 1059, e_jPre_checkIndex_v195), (1000002, 1053, en_ro [] (3, 0, 0, ro_ids))]
set_option maxRecDepth 100000 in
theorem c_jStr_checkIndex_v194 {l : Launch} {D : va_G} {kA : Nat → ClassId} : ct_ok l D kA GG y_jStr_checkIndex z_jStr_checkIndex e_jStr_checkIndex_v194 := chk_all_ok (FT := []) (PT := []) (CT := t_jStr_checkIndex_v194_ct) (KT := []) (NT := []) (AN := n_jStr_checkIndex_v194_an) (OT := []) 0 200 (List.forall_mem_nil _) (by decide +kernel) ⟨List.forall_mem_nil _, List.forall_mem_nil _, List.forall_mem_cons.mpr ⟨cl_static (y := y_jPre_checkIndex) c_jPre_checkIndex_v195 wm_699 wm_13 wm_697 wm_698 ⟨by decide, by decide, by decide +kernel⟩ (by decide), List.forall_mem_cons.mpr ⟨cl_format wm_695, List.forall_mem_nil _⟩⟩, List.forall_mem_nil _, List.forall_mem_nil _, GG_pl⟩ (by decide +kernel)
def e_jStr_length_v196 : en_T := ([(2, 0, 0, [5015])], some (0, 2, 2, []), true, 2, 0, 0, [], [], (0, [], [], [], []))
def n_jStr_length_v196_an : List an_T := []
def t_jStr_length_v196_ct : ct_L := [(22, 335, e_jStr_coder_v172), (1000003, 9, en_ro [(2, 0, 0, [5015])] (2, 0, 0, [5215])), (1000004, 0, en_ro [(2, 0, 0, [5215])] (0, 2, 2, []))]
set_option maxRecDepth 100000 in
theorem c_jStr_length_v196 {l : Launch} {D : va_G} {kA : Nat → ClassId} : ct_ok l D kA GG y_jStr_length z_jStr_length e_jStr_length_v196 := chk_all_ok (FT := []) (PT := []) (CT := t_jStr_length_v196_ct) (KT := []) (NT := []) (AN := n_jStr_length_v196_an) (OT := []) 0 200 (List.forall_mem_nil _) (by decide +kernel) ⟨List.forall_mem_nil _, List.forall_mem_nil _, List.forall_mem_cons.mpr ⟨cl_stringS (y := y_jStr_coder) (rs := ro_strs) rfl (by decide +kernel) rfl c_jStr_coder_v172 wm_678 wm_11 wm_675 wm_676 wm_677 ⟨by decide, by decide, by decide +kernel⟩ (by decide), List.forall_mem_cons.mpr ⟨cl_value (i := 15) wm_3969 rfl (by decide +kernel) (by decide +kernel) (by decide +kernel), List.forall_mem_cons.mpr ⟨cl_tlen (i := 15) (n := 2) rfl (by decide +kernel) (by decide +kernel) (by decide +kernel), List.forall_mem_nil _⟩⟩⟩, List.forall_mem_nil _, List.forall_mem_nil _, GG_pl⟩ (by decide +kernel)
def e_jStr_checkIndex_v199 : en_T := ([(0, 0, 1, []), (0, 2, 2, [])], none, true, 2, 0, 0, [], [], (0, [], [], [], []))
def n_jStr_checkIndex_v199_an : List an_T := []
def t_jStr_checkIndex_v199_ct : ct_L := [(18, 1059, e_jPre_checkIndex_v200), (1000002, 1053, en_ro [] (3, 0, 0, ro_ids))]
set_option maxRecDepth 100000 in
theorem c_jStr_checkIndex_v199 {l : Launch} {D : va_G} {kA : Nat → ClassId} : ct_ok l D kA GG y_jStr_checkIndex z_jStr_checkIndex e_jStr_checkIndex_v199 := chk_all_ok (FT := []) (PT := []) (CT := t_jStr_checkIndex_v199_ct) (KT := []) (NT := []) (AN := n_jStr_checkIndex_v199_an) (OT := []) 0 200 (List.forall_mem_nil _) (by decide +kernel) ⟨List.forall_mem_nil _, List.forall_mem_nil _, List.forall_mem_cons.mpr ⟨cl_static (y := y_jPre_checkIndex) c_jPre_checkIndex_v200 wm_699 wm_13 wm_697 wm_698 ⟨by decide, by decide, by decide +kernel⟩ (by decide), List.forall_mem_cons.mpr ⟨cl_format wm_695, List.forall_mem_nil _⟩⟩, List.forall_mem_nil _, List.forall_mem_nil _, GG_pl⟩ (by decide +kernel)
def e_jStr_length_v201 : en_T := ([(2, 0, 0, [5016])], some (0, 6, 6, []), true, 2, 0, 0, [], [], (0, [], [], [], []))
def n_jStr_length_v201_an : List an_T := []
def t_jStr_length_v201_ct : ct_L := [(22, 335, e_jStr_coder_v172), (1000003, 9, en_ro [(2, 0, 0, [5016])] (2, 0, 0, [5216])), (1000004, 0, en_ro [(2, 0, 0, [5216])] (0, 6, 6, []))]
set_option maxRecDepth 100000 in
theorem c_jStr_length_v201 {l : Launch} {D : va_G} {kA : Nat → ClassId} : ct_ok l D kA GG y_jStr_length z_jStr_length e_jStr_length_v201 := chk_all_ok (FT := []) (PT := []) (CT := t_jStr_length_v201_ct) (KT := []) (NT := []) (AN := n_jStr_length_v201_an) (OT := []) 0 200 (List.forall_mem_nil _) (by decide +kernel) ⟨List.forall_mem_nil _, List.forall_mem_nil _, List.forall_mem_cons.mpr ⟨cl_stringS (y := y_jStr_coder) (rs := ro_strs) rfl (by decide +kernel) rfl c_jStr_coder_v172 wm_678 wm_11 wm_675 wm_676 wm_677 ⟨by decide, by decide, by decide +kernel⟩ (by decide), List.forall_mem_cons.mpr ⟨cl_value (i := 16) wm_3969 rfl (by decide +kernel) (by decide +kernel) (by decide +kernel), List.forall_mem_cons.mpr ⟨cl_tlen (i := 16) (n := 6) rfl (by decide +kernel) (by decide +kernel) (by decide +kernel), List.forall_mem_nil _⟩⟩⟩, List.forall_mem_nil _, List.forall_mem_nil _, GG_pl⟩ (by decide +kernel)
def e_jStr_length_v204 : en_T := ([(2, 0, 0, [5017])], some (0, 3, 3, []), true, 2, 0, 0, [], [], (0, [], [], [], []))
def n_jStr_length_v204_an : List an_T := []
def t_jStr_length_v204_ct : ct_L := [(22, 335, e_jStr_coder_v172), (1000003, 9, en_ro [(2, 0, 0, [5017])] (2, 0, 0, [5217])), (1000004, 0, en_ro [(2, 0, 0, [5217])] (0, 3, 3, []))]
set_option maxRecDepth 100000 in
theorem c_jStr_length_v204 {l : Launch} {D : va_G} {kA : Nat → ClassId} : ct_ok l D kA GG y_jStr_length z_jStr_length e_jStr_length_v204 := chk_all_ok (FT := []) (PT := []) (CT := t_jStr_length_v204_ct) (KT := []) (NT := []) (AN := n_jStr_length_v204_an) (OT := []) 0 200 (List.forall_mem_nil _) (by decide +kernel) ⟨List.forall_mem_nil _, List.forall_mem_nil _, List.forall_mem_cons.mpr ⟨cl_stringS (y := y_jStr_coder) (rs := ro_strs) rfl (by decide +kernel) rfl c_jStr_coder_v172 wm_678 wm_11 wm_675 wm_676 wm_677 ⟨by decide, by decide, by decide +kernel⟩ (by decide), List.forall_mem_cons.mpr ⟨cl_value (i := 17) wm_3969 rfl (by decide +kernel) (by decide +kernel) (by decide +kernel), List.forall_mem_cons.mpr ⟨cl_tlen (i := 17) (n := 3) rfl (by decide +kernel) (by decide +kernel) (by decide +kernel), List.forall_mem_nil _⟩⟩⟩, List.forall_mem_nil _, List.forall_mem_nil _, GG_pl⟩ (by decide +kernel)
def e_jStr_length_v207 : en_T := ([(2, 0, 0, [5018])], some (0, 2, 2, []), true, 2, 0, 0, [], [], (0, [], [], [], []))
def n_jStr_length_v207_an : List an_T := []
def t_jStr_length_v207_ct : ct_L := [(22, 335, e_jStr_coder_v172), (1000003, 9, en_ro [(2, 0, 0, [5018])] (2, 0, 0, [5218])), (1000004, 0, en_ro [(2, 0, 0, [5218])] (0, 2, 2, []))]
set_option maxRecDepth 100000 in
theorem c_jStr_length_v207 {l : Launch} {D : va_G} {kA : Nat → ClassId} : ct_ok l D kA GG y_jStr_length z_jStr_length e_jStr_length_v207 := chk_all_ok (FT := []) (PT := []) (CT := t_jStr_length_v207_ct) (KT := []) (NT := []) (AN := n_jStr_length_v207_an) (OT := []) 0 200 (List.forall_mem_nil _) (by decide +kernel) ⟨List.forall_mem_nil _, List.forall_mem_nil _, List.forall_mem_cons.mpr ⟨cl_stringS (y := y_jStr_coder) (rs := ro_strs) rfl (by decide +kernel) rfl c_jStr_coder_v172 wm_678 wm_11 wm_675 wm_676 wm_677 ⟨by decide, by decide, by decide +kernel⟩ (by decide), List.forall_mem_cons.mpr ⟨cl_value (i := 18) wm_3969 rfl (by decide +kernel) (by decide +kernel) (by decide +kernel), List.forall_mem_cons.mpr ⟨cl_tlen (i := 18) (n := 2) rfl (by decide +kernel) (by decide +kernel) (by decide +kernel), List.forall_mem_nil _⟩⟩⟩, List.forall_mem_nil _, List.forall_mem_nil _, GG_pl⟩ (by decide +kernel)
def e_jStr_length_v210 : en_T := ([(2, 0, 0, [5019])], some (0, 3, 3, []), true, 2, 0, 0, [], [], (0, [], [], [], []))
def n_jStr_length_v210_an : List an_T := []
def t_jStr_length_v210_ct : ct_L := [(22, 335, e_jStr_coder_v172), (1000003, 9, en_ro [(2, 0, 0, [5019])] (2, 0, 0, [5219])), (1000004, 0, en_ro [(2, 0, 0, [5219])] (0, 3, 3, []))]
set_option maxRecDepth 100000 in
theorem c_jStr_length_v210 {l : Launch} {D : va_G} {kA : Nat → ClassId} : ct_ok l D kA GG y_jStr_length z_jStr_length e_jStr_length_v210 := chk_all_ok (FT := []) (PT := []) (CT := t_jStr_length_v210_ct) (KT := []) (NT := []) (AN := n_jStr_length_v210_an) (OT := []) 0 200 (List.forall_mem_nil _) (by decide +kernel) ⟨List.forall_mem_nil _, List.forall_mem_nil _, List.forall_mem_cons.mpr ⟨cl_stringS (y := y_jStr_coder) (rs := ro_strs) rfl (by decide +kernel) rfl c_jStr_coder_v172 wm_678 wm_11 wm_675 wm_676 wm_677 ⟨by decide, by decide, by decide +kernel⟩ (by decide), List.forall_mem_cons.mpr ⟨cl_value (i := 19) wm_3969 rfl (by decide +kernel) (by decide +kernel) (by decide +kernel), List.forall_mem_cons.mpr ⟨cl_tlen (i := 19) (n := 3) rfl (by decide +kernel) (by decide +kernel) (by decide +kernel), List.forall_mem_nil _⟩⟩⟩, List.forall_mem_nil _, List.forall_mem_nil _, GG_pl⟩ (by decide +kernel)
def e_jStr_length_v213 : en_T := ([(2, 0, 0, [5020])], some (0, 3, 3, []), true, 2, 0, 0, [], [], (0, [], [], [], []))
def n_jStr_length_v213_an : List an_T := []
def t_jStr_length_v213_ct : ct_L := [(22, 335, e_jStr_coder_v172), (1000003, 9, en_ro [(2, 0, 0, [5020])] (2, 0, 0, [5220])), (1000004, 0, en_ro [(2, 0, 0, [5220])] (0, 3, 3, []))]
set_option maxRecDepth 100000 in
theorem c_jStr_length_v213 {l : Launch} {D : va_G} {kA : Nat → ClassId} : ct_ok l D kA GG y_jStr_length z_jStr_length e_jStr_length_v213 := chk_all_ok (FT := []) (PT := []) (CT := t_jStr_length_v213_ct) (KT := []) (NT := []) (AN := n_jStr_length_v213_an) (OT := []) 0 200 (List.forall_mem_nil _) (by decide +kernel) ⟨List.forall_mem_nil _, List.forall_mem_nil _, List.forall_mem_cons.mpr ⟨cl_stringS (y := y_jStr_coder) (rs := ro_strs) rfl (by decide +kernel) rfl c_jStr_coder_v172 wm_678 wm_11 wm_675 wm_676 wm_677 ⟨by decide, by decide, by decide +kernel⟩ (by decide), List.forall_mem_cons.mpr ⟨cl_value (i := 20) wm_3969 rfl (by decide +kernel) (by decide +kernel) (by decide +kernel), List.forall_mem_cons.mpr ⟨cl_tlen (i := 20) (n := 3) rfl (by decide +kernel) (by decide +kernel) (by decide +kernel), List.forall_mem_nil _⟩⟩⟩, List.forall_mem_nil _, List.forall_mem_nil _, GG_pl⟩ (by decide +kernel)
def e_jStr_length_v216 : en_T := ([(2, 0, 0, [5021])], some (0, 9, 9, []), true, 2, 0, 0, [], [], (0, [], [], [], []))
def n_jStr_length_v216_an : List an_T := []
def t_jStr_length_v216_ct : ct_L := [(22, 335, e_jStr_coder_v172), (1000003, 9, en_ro [(2, 0, 0, [5021])] (2, 0, 0, [5221])), (1000004, 0, en_ro [(2, 0, 0, [5221])] (0, 9, 9, []))]
set_option maxRecDepth 100000 in
theorem c_jStr_length_v216 {l : Launch} {D : va_G} {kA : Nat → ClassId} : ct_ok l D kA GG y_jStr_length z_jStr_length e_jStr_length_v216 := chk_all_ok (FT := []) (PT := []) (CT := t_jStr_length_v216_ct) (KT := []) (NT := []) (AN := n_jStr_length_v216_an) (OT := []) 0 200 (List.forall_mem_nil _) (by decide +kernel) ⟨List.forall_mem_nil _, List.forall_mem_nil _, List.forall_mem_cons.mpr ⟨cl_stringS (y := y_jStr_coder) (rs := ro_strs) rfl (by decide +kernel) rfl c_jStr_coder_v172 wm_678 wm_11 wm_675 wm_676 wm_677 ⟨by decide, by decide, by decide +kernel⟩ (by decide), List.forall_mem_cons.mpr ⟨cl_value (i := 21) wm_3969 rfl (by decide +kernel) (by decide +kernel) (by decide +kernel), List.forall_mem_cons.mpr ⟨cl_tlen (i := 21) (n := 9) rfl (by decide +kernel) (by decide +kernel) (by decide +kernel), List.forall_mem_nil _⟩⟩⟩, List.forall_mem_nil _, List.forall_mem_nil _, GG_pl⟩ (by decide +kernel)
def e_jStr_checkIndex_v219 : en_T := ([(0, 0, 8, []), (0, 9, 9, [])], none, true, 2, 0, 0, [], [], (0, [], [], [], []))
def n_jStr_checkIndex_v219_an : List an_T := []
def t_jStr_checkIndex_v219_ct : ct_L := [(18, 1059, e_jPre_checkIndex_v220), (1000002, 1053, en_ro [] (3, 0, 0, ro_ids))]
set_option maxRecDepth 100000 in
theorem c_jStr_checkIndex_v219 {l : Launch} {D : va_G} {kA : Nat → ClassId} : ct_ok l D kA GG y_jStr_checkIndex z_jStr_checkIndex e_jStr_checkIndex_v219 := chk_all_ok (FT := []) (PT := []) (CT := t_jStr_checkIndex_v219_ct) (KT := []) (NT := []) (AN := n_jStr_checkIndex_v219_an) (OT := []) 0 200 (List.forall_mem_nil _) (by decide +kernel) ⟨List.forall_mem_nil _, List.forall_mem_nil _, List.forall_mem_cons.mpr ⟨cl_static (y := y_jPre_checkIndex) c_jPre_checkIndex_v220 wm_699 wm_13 wm_697 wm_698 ⟨by decide, by decide, by decide +kernel⟩ (by decide), List.forall_mem_cons.mpr ⟨cl_format wm_695, List.forall_mem_nil _⟩⟩, List.forall_mem_nil _, List.forall_mem_nil _, GG_pl⟩ (by decide +kernel)
def e_jStr_length_v223 : en_T := ([(2, 0, 0, [5005])], some (0, 14, 14, []), true, 2, 0, 0, [], [], (0, [], [], [], []))
def n_jStr_length_v223_an : List an_T := []
def t_jStr_length_v223_ct : ct_L := [(22, 335, e_jStr_coder_v172), (1000003, 9, en_ro [(2, 0, 0, [5005])] (2, 0, 0, [5205])), (1000004, 0, en_ro [(2, 0, 0, [5205])] (0, 14, 14, []))]
set_option maxRecDepth 100000 in
theorem c_jStr_length_v223 {l : Launch} {D : va_G} {kA : Nat → ClassId} : ct_ok l D kA GG y_jStr_length z_jStr_length e_jStr_length_v223 := chk_all_ok (FT := []) (PT := []) (CT := t_jStr_length_v223_ct) (KT := []) (NT := []) (AN := n_jStr_length_v223_an) (OT := []) 0 200 (List.forall_mem_nil _) (by decide +kernel) ⟨List.forall_mem_nil _, List.forall_mem_nil _, List.forall_mem_cons.mpr ⟨cl_stringS (y := y_jStr_coder) (rs := ro_strs) rfl (by decide +kernel) rfl c_jStr_coder_v172 wm_678 wm_11 wm_675 wm_676 wm_677 ⟨by decide, by decide, by decide +kernel⟩ (by decide), List.forall_mem_cons.mpr ⟨cl_value (i := 5) wm_3969 rfl (by decide +kernel) (by decide +kernel) (by decide +kernel), List.forall_mem_cons.mpr ⟨cl_tlen (i := 5) (n := 14) rfl (by decide +kernel) (by decide +kernel) (by decide +kernel), List.forall_mem_nil _⟩⟩⟩, List.forall_mem_nil _, List.forall_mem_nil _, GG_pl⟩ (by decide +kernel)
def e_jLat_indexOf_v224 : en_T := ([(2, 0, 0, [5205]), (0, 0, 65535, []), (0, 0, 0, []), (0, 14, 14, [])], some (0, -1, 13, []), true, 2, 0, 0, [], [], (0, [], [], [], []))
def n_jLat_indexOf_v224_an : List an_T := []
def t_jLat_indexOf_v224_ct : ct_L := [(6, 88, e_jLat_canEncode_v225), (36, 92, e_jMath_max1_v76), (57, 38, e_jMath_min1_v226), (102, 95, e_jLat_indexOfChar_v227), (1000004, 0, en_ro [(2, 0, 0, [5205])] (0, 14, 14, []))]
set_option maxRecDepth 100000 in
theorem c_jLat_indexOf_v224 {l : Launch} {D : va_G} {kA : Nat → ClassId} : ct_ok l D kA GG y_jLat_indexOf z_jLat_indexOf e_jLat_indexOf_v224 := chk_all_ok (FT := []) (PT := []) (CT := t_jLat_indexOf_v224_ct) (KT := []) (NT := []) (AN := n_jLat_indexOf_v224_an) (OT := []) 0 200 (List.forall_mem_nil _) (by decide +kernel) ⟨List.forall_mem_nil _, List.forall_mem_nil _, List.forall_mem_cons.mpr ⟨cl_static (y := y_jLat_canEncode) c_jLat_canEncode_v225 wm_2180 wm_12 wm_2178 wm_2179 ⟨by decide, by decide, by decide +kernel⟩ (by decide), List.forall_mem_cons.mpr ⟨cl_static (y := y_jMath_max1) c_jMath_max1_v76 wm_836 wm_10 wm_2181 wm_835 ⟨by decide, by decide, by decide +kernel⟩ (by decide), List.forall_mem_cons.mpr ⟨cl_static (y := y_jMath_min1) c_jMath_min1_v226 wm_658 wm_10 wm_2182 wm_657 ⟨by decide, by decide, by decide +kernel⟩ (by decide), List.forall_mem_cons.mpr ⟨cl_static (y := y_jLat_indexOfChar) c_jLat_indexOfChar_v227 wm_2185 wm_12 wm_2183 wm_2184 ⟨by decide, by decide, by decide +kernel⟩ (by decide), List.forall_mem_cons.mpr ⟨cl_tlen (i := 5) (n := 14) rfl (by decide +kernel) (by decide +kernel) (by decide +kernel), List.forall_mem_nil _⟩⟩⟩⟩⟩, List.forall_mem_nil _, List.forall_mem_nil _, GG_pl⟩ (by decide +kernel)
def e_jStr_length_v228 : en_T := ([(2, 0, 0, [5004])], some (0, 39, 39, []), true, 2, 0, 0, [], [], (0, [], [], [], []))
def n_jStr_length_v228_an : List an_T := []
def t_jStr_length_v228_ct : ct_L := [(22, 335, e_jStr_coder_v172), (1000003, 9, en_ro [(2, 0, 0, [5004])] (2, 0, 0, [5204])), (1000004, 0, en_ro [(2, 0, 0, [5204])] (0, 39, 39, []))]
set_option maxRecDepth 100000 in
theorem c_jStr_length_v228 {l : Launch} {D : va_G} {kA : Nat → ClassId} : ct_ok l D kA GG y_jStr_length z_jStr_length e_jStr_length_v228 := chk_all_ok (FT := []) (PT := []) (CT := t_jStr_length_v228_ct) (KT := []) (NT := []) (AN := n_jStr_length_v228_an) (OT := []) 0 200 (List.forall_mem_nil _) (by decide +kernel) ⟨List.forall_mem_nil _, List.forall_mem_nil _, List.forall_mem_cons.mpr ⟨cl_stringS (y := y_jStr_coder) (rs := ro_strs) rfl (by decide +kernel) rfl c_jStr_coder_v172 wm_678 wm_11 wm_675 wm_676 wm_677 ⟨by decide, by decide, by decide +kernel⟩ (by decide), List.forall_mem_cons.mpr ⟨cl_value (i := 4) wm_3969 rfl (by decide +kernel) (by decide +kernel) (by decide +kernel), List.forall_mem_cons.mpr ⟨cl_tlen (i := 4) (n := 39) rfl (by decide +kernel) (by decide +kernel) (by decide +kernel), List.forall_mem_nil _⟩⟩⟩, List.forall_mem_nil _, List.forall_mem_nil _, GG_pl⟩ (by decide +kernel)
def e_jStr_length_v229 : en_T := ([(2, 0, 0, [5006])], some (0, 10, 10, []), true, 2, 0, 0, [], [], (0, [], [], [], []))
def n_jStr_length_v229_an : List an_T := []
def t_jStr_length_v229_ct : ct_L := [(22, 335, e_jStr_coder_v172), (1000003, 9, en_ro [(2, 0, 0, [5006])] (2, 0, 0, [5206])), (1000004, 0, en_ro [(2, 0, 0, [5206])] (0, 10, 10, []))]
set_option maxRecDepth 100000 in
theorem c_jStr_length_v229 {l : Launch} {D : va_G} {kA : Nat → ClassId} : ct_ok l D kA GG y_jStr_length z_jStr_length e_jStr_length_v229 := chk_all_ok (FT := []) (PT := []) (CT := t_jStr_length_v229_ct) (KT := []) (NT := []) (AN := n_jStr_length_v229_an) (OT := []) 0 200 (List.forall_mem_nil _) (by decide +kernel) ⟨List.forall_mem_nil _, List.forall_mem_nil _, List.forall_mem_cons.mpr ⟨cl_stringS (y := y_jStr_coder) (rs := ro_strs) rfl (by decide +kernel) rfl c_jStr_coder_v172 wm_678 wm_11 wm_675 wm_676 wm_677 ⟨by decide, by decide, by decide +kernel⟩ (by decide), List.forall_mem_cons.mpr ⟨cl_value (i := 6) wm_3969 rfl (by decide +kernel) (by decide +kernel) (by decide +kernel), List.forall_mem_cons.mpr ⟨cl_tlen (i := 6) (n := 10) rfl (by decide +kernel) (by decide +kernel) (by decide +kernel), List.forall_mem_nil _⟩⟩⟩, List.forall_mem_nil _, List.forall_mem_nil _, GG_pl⟩ (by decide +kernel)
def e_jStr_length_v230 : en_T := ([(2, 0, 0, [5007])], some (0, 44, 44, []), true, 2, 0, 0, [], [], (0, [], [], [], []))
def n_jStr_length_v230_an : List an_T := []
def t_jStr_length_v230_ct : ct_L := [(22, 335, e_jStr_coder_v172), (1000003, 9, en_ro [(2, 0, 0, [5007])] (2, 0, 0, [5207])), (1000004, 0, en_ro [(2, 0, 0, [5207])] (0, 44, 44, []))]
set_option maxRecDepth 100000 in
theorem c_jStr_length_v230 {l : Launch} {D : va_G} {kA : Nat → ClassId} : ct_ok l D kA GG y_jStr_length z_jStr_length e_jStr_length_v230 := chk_all_ok (FT := []) (PT := []) (CT := t_jStr_length_v230_ct) (KT := []) (NT := []) (AN := n_jStr_length_v230_an) (OT := []) 0 200 (List.forall_mem_nil _) (by decide +kernel) ⟨List.forall_mem_nil _, List.forall_mem_nil _, List.forall_mem_cons.mpr ⟨cl_stringS (y := y_jStr_coder) (rs := ro_strs) rfl (by decide +kernel) rfl c_jStr_coder_v172 wm_678 wm_11 wm_675 wm_676 wm_677 ⟨by decide, by decide, by decide +kernel⟩ (by decide), List.forall_mem_cons.mpr ⟨cl_value (i := 7) wm_3969 rfl (by decide +kernel) (by decide +kernel) (by decide +kernel), List.forall_mem_cons.mpr ⟨cl_tlen (i := 7) (n := 44) rfl (by decide +kernel) (by decide +kernel) (by decide +kernel), List.forall_mem_nil _⟩⟩⟩, List.forall_mem_nil _, List.forall_mem_nil _, GG_pl⟩ (by decide +kernel)
def e_jStr_length_v231 : en_T := ([(2, 0, 0, [5008])], some (0, 3, 3, []), true, 2, 0, 0, [], [], (0, [], [], [], []))
def n_jStr_length_v231_an : List an_T := []
def t_jStr_length_v231_ct : ct_L := [(22, 335, e_jStr_coder_v172), (1000003, 9, en_ro [(2, 0, 0, [5008])] (2, 0, 0, [5208])), (1000004, 0, en_ro [(2, 0, 0, [5208])] (0, 3, 3, []))]
set_option maxRecDepth 100000 in
theorem c_jStr_length_v231 {l : Launch} {D : va_G} {kA : Nat → ClassId} : ct_ok l D kA GG y_jStr_length z_jStr_length e_jStr_length_v231 := chk_all_ok (FT := []) (PT := []) (CT := t_jStr_length_v231_ct) (KT := []) (NT := []) (AN := n_jStr_length_v231_an) (OT := []) 0 200 (List.forall_mem_nil _) (by decide +kernel) ⟨List.forall_mem_nil _, List.forall_mem_nil _, List.forall_mem_cons.mpr ⟨cl_stringS (y := y_jStr_coder) (rs := ro_strs) rfl (by decide +kernel) rfl c_jStr_coder_v172 wm_678 wm_11 wm_675 wm_676 wm_677 ⟨by decide, by decide, by decide +kernel⟩ (by decide), List.forall_mem_cons.mpr ⟨cl_value (i := 8) wm_3969 rfl (by decide +kernel) (by decide +kernel) (by decide +kernel), List.forall_mem_cons.mpr ⟨cl_tlen (i := 8) (n := 3) rfl (by decide +kernel) (by decide +kernel) (by decide +kernel), List.forall_mem_nil _⟩⟩⟩, List.forall_mem_nil _, List.forall_mem_nil _, GG_pl⟩ (by decide +kernel)
def e_jStr_length_v232 : en_T := ([(2, 0, 0, [5009])], some (0, 4, 4, []), true, 2, 0, 0, [], [], (0, [], [], [], []))
def n_jStr_length_v232_an : List an_T := []
def t_jStr_length_v232_ct : ct_L := [(22, 335, e_jStr_coder_v172), (1000003, 9, en_ro [(2, 0, 0, [5009])] (2, 0, 0, [5209])), (1000004, 0, en_ro [(2, 0, 0, [5209])] (0, 4, 4, []))]
set_option maxRecDepth 100000 in
theorem c_jStr_length_v232 {l : Launch} {D : va_G} {kA : Nat → ClassId} : ct_ok l D kA GG y_jStr_length z_jStr_length e_jStr_length_v232 := chk_all_ok (FT := []) (PT := []) (CT := t_jStr_length_v232_ct) (KT := []) (NT := []) (AN := n_jStr_length_v232_an) (OT := []) 0 200 (List.forall_mem_nil _) (by decide +kernel) ⟨List.forall_mem_nil _, List.forall_mem_nil _, List.forall_mem_cons.mpr ⟨cl_stringS (y := y_jStr_coder) (rs := ro_strs) rfl (by decide +kernel) rfl c_jStr_coder_v172 wm_678 wm_11 wm_675 wm_676 wm_677 ⟨by decide, by decide, by decide +kernel⟩ (by decide), List.forall_mem_cons.mpr ⟨cl_value (i := 9) wm_3969 rfl (by decide +kernel) (by decide +kernel) (by decide +kernel), List.forall_mem_cons.mpr ⟨cl_tlen (i := 9) (n := 4) rfl (by decide +kernel) (by decide +kernel) (by decide +kernel), List.forall_mem_nil _⟩⟩⟩, List.forall_mem_nil _, List.forall_mem_nil _, GG_pl⟩ (by decide +kernel)
def e_jStr_length_v233 : en_T := ([(2, 0, 0, [5010])], some (0, 4, 4, []), true, 2, 0, 0, [], [], (0, [], [], [], []))
def n_jStr_length_v233_an : List an_T := []
def t_jStr_length_v233_ct : ct_L := [(22, 335, e_jStr_coder_v172), (1000003, 9, en_ro [(2, 0, 0, [5010])] (2, 0, 0, [5210])), (1000004, 0, en_ro [(2, 0, 0, [5210])] (0, 4, 4, []))]
set_option maxRecDepth 100000 in
theorem c_jStr_length_v233 {l : Launch} {D : va_G} {kA : Nat → ClassId} : ct_ok l D kA GG y_jStr_length z_jStr_length e_jStr_length_v233 := chk_all_ok (FT := []) (PT := []) (CT := t_jStr_length_v233_ct) (KT := []) (NT := []) (AN := n_jStr_length_v233_an) (OT := []) 0 200 (List.forall_mem_nil _) (by decide +kernel) ⟨List.forall_mem_nil _, List.forall_mem_nil _, List.forall_mem_cons.mpr ⟨cl_stringS (y := y_jStr_coder) (rs := ro_strs) rfl (by decide +kernel) rfl c_jStr_coder_v172 wm_678 wm_11 wm_675 wm_676 wm_677 ⟨by decide, by decide, by decide +kernel⟩ (by decide), List.forall_mem_cons.mpr ⟨cl_value (i := 10) wm_3969 rfl (by decide +kernel) (by decide +kernel) (by decide +kernel), List.forall_mem_cons.mpr ⟨cl_tlen (i := 10) (n := 4) rfl (by decide +kernel) (by decide +kernel) (by decide +kernel), List.forall_mem_nil _⟩⟩⟩, List.forall_mem_nil _, List.forall_mem_nil _, GG_pl⟩ (by decide +kernel)
def e_jStr_length_v234 : en_T := ([(2, 0, 0, [5011])], some (0, 3, 3, []), true, 2, 0, 0, [], [], (0, [], [], [], []))
def n_jStr_length_v234_an : List an_T := []
def t_jStr_length_v234_ct : ct_L := [(22, 335, e_jStr_coder_v172), (1000003, 9, en_ro [(2, 0, 0, [5011])] (2, 0, 0, [5211])), (1000004, 0, en_ro [(2, 0, 0, [5211])] (0, 3, 3, []))]
set_option maxRecDepth 100000 in
theorem c_jStr_length_v234 {l : Launch} {D : va_G} {kA : Nat → ClassId} : ct_ok l D kA GG y_jStr_length z_jStr_length e_jStr_length_v234 := chk_all_ok (FT := []) (PT := []) (CT := t_jStr_length_v234_ct) (KT := []) (NT := []) (AN := n_jStr_length_v234_an) (OT := []) 0 200 (List.forall_mem_nil _) (by decide +kernel) ⟨List.forall_mem_nil _, List.forall_mem_nil _, List.forall_mem_cons.mpr ⟨cl_stringS (y := y_jStr_coder) (rs := ro_strs) rfl (by decide +kernel) rfl c_jStr_coder_v172 wm_678 wm_11 wm_675 wm_676 wm_677 ⟨by decide, by decide, by decide +kernel⟩ (by decide), List.forall_mem_cons.mpr ⟨cl_value (i := 11) wm_3969 rfl (by decide +kernel) (by decide +kernel) (by decide +kernel), List.forall_mem_cons.mpr ⟨cl_tlen (i := 11) (n := 3) rfl (by decide +kernel) (by decide +kernel) (by decide +kernel), List.forall_mem_nil _⟩⟩⟩, List.forall_mem_nil _, List.forall_mem_nil _, GG_pl⟩ (by decide +kernel)
def e_jStr_length_v235 : en_T := ([(2, 0, 0, [5012])], some (0, 17, 17, []), true, 2, 0, 0, [], [], (0, [], [], [], []))
def n_jStr_length_v235_an : List an_T := []
def t_jStr_length_v235_ct : ct_L := [(22, 335, e_jStr_coder_v172), (1000003, 9, en_ro [(2, 0, 0, [5012])] (2, 0, 0, [5212])), (1000004, 0, en_ro [(2, 0, 0, [5212])] (0, 17, 17, []))]
set_option maxRecDepth 100000 in
theorem c_jStr_length_v235 {l : Launch} {D : va_G} {kA : Nat → ClassId} : ct_ok l D kA GG y_jStr_length z_jStr_length e_jStr_length_v235 := chk_all_ok (FT := []) (PT := []) (CT := t_jStr_length_v235_ct) (KT := []) (NT := []) (AN := n_jStr_length_v235_an) (OT := []) 0 200 (List.forall_mem_nil _) (by decide +kernel) ⟨List.forall_mem_nil _, List.forall_mem_nil _, List.forall_mem_cons.mpr ⟨cl_stringS (y := y_jStr_coder) (rs := ro_strs) rfl (by decide +kernel) rfl c_jStr_coder_v172 wm_678 wm_11 wm_675 wm_676 wm_677 ⟨by decide, by decide, by decide +kernel⟩ (by decide), List.forall_mem_cons.mpr ⟨cl_value (i := 12) wm_3969 rfl (by decide +kernel) (by decide +kernel) (by decide +kernel), List.forall_mem_cons.mpr ⟨cl_tlen (i := 12) (n := 17) rfl (by decide +kernel) (by decide +kernel) (by decide +kernel), List.forall_mem_nil _⟩⟩⟩, List.forall_mem_nil _, List.forall_mem_nil _, GG_pl⟩ (by decide +kernel)
def e_jStr_length_v236 : en_T := ([(2, 0, 0, [5022])], some (0, 4, 4, []), true, 2, 0, 0, [], [], (0, [], [], [], []))
def n_jStr_length_v236_an : List an_T := []
def t_jStr_length_v236_ct : ct_L := [(22, 335, e_jStr_coder_v172), (1000003, 9, en_ro [(2, 0, 0, [5022])] (2, 0, 0, [5222])), (1000004, 0, en_ro [(2, 0, 0, [5222])] (0, 4, 4, []))]
set_option maxRecDepth 100000 in
theorem c_jStr_length_v236 {l : Launch} {D : va_G} {kA : Nat → ClassId} : ct_ok l D kA GG y_jStr_length z_jStr_length e_jStr_length_v236 := chk_all_ok (FT := []) (PT := []) (CT := t_jStr_length_v236_ct) (KT := []) (NT := []) (AN := n_jStr_length_v236_an) (OT := []) 0 200 (List.forall_mem_nil _) (by decide +kernel) ⟨List.forall_mem_nil _, List.forall_mem_nil _, List.forall_mem_cons.mpr ⟨cl_stringS (y := y_jStr_coder) (rs := ro_strs) rfl (by decide +kernel) rfl c_jStr_coder_v172 wm_678 wm_11 wm_675 wm_676 wm_677 ⟨by decide, by decide, by decide +kernel⟩ (by decide), List.forall_mem_cons.mpr ⟨cl_value (i := 22) wm_3969 rfl (by decide +kernel) (by decide +kernel) (by decide +kernel), List.forall_mem_cons.mpr ⟨cl_tlen (i := 22) (n := 4) rfl (by decide +kernel) (by decide +kernel) (by decide +kernel), List.forall_mem_nil _⟩⟩⟩, List.forall_mem_nil _, List.forall_mem_nil _, GG_pl⟩ (by decide +kernel)
def e_jStr_length_v239 : en_T := ([(2, 0, 0, [5023])], some (0, 2, 2, []), true, 2, 0, 0, [], [], (0, [], [], [], []))
def n_jStr_length_v239_an : List an_T := []
def t_jStr_length_v239_ct : ct_L := [(22, 335, e_jStr_coder_v172), (1000003, 9, en_ro [(2, 0, 0, [5023])] (2, 0, 0, [5223])), (1000004, 0, en_ro [(2, 0, 0, [5223])] (0, 2, 2, []))]
set_option maxRecDepth 100000 in
theorem c_jStr_length_v239 {l : Launch} {D : va_G} {kA : Nat → ClassId} : ct_ok l D kA GG y_jStr_length z_jStr_length e_jStr_length_v239 := chk_all_ok (FT := []) (PT := []) (CT := t_jStr_length_v239_ct) (KT := []) (NT := []) (AN := n_jStr_length_v239_an) (OT := []) 0 200 (List.forall_mem_nil _) (by decide +kernel) ⟨List.forall_mem_nil _, List.forall_mem_nil _, List.forall_mem_cons.mpr ⟨cl_stringS (y := y_jStr_coder) (rs := ro_strs) rfl (by decide +kernel) rfl c_jStr_coder_v172 wm_678 wm_11 wm_675 wm_676 wm_677 ⟨by decide, by decide, by decide +kernel⟩ (by decide), List.forall_mem_cons.mpr ⟨cl_value (i := 23) wm_3969 rfl (by decide +kernel) (by decide +kernel) (by decide +kernel), List.forall_mem_cons.mpr ⟨cl_tlen (i := 23) (n := 2) rfl (by decide +kernel) (by decide +kernel) (by decide +kernel), List.forall_mem_nil _⟩⟩⟩, List.forall_mem_nil _, List.forall_mem_nil _, GG_pl⟩ (by decide +kernel)
def e_jStr_length_v242 : en_T := ([(2, 0, 0, [5024])], some (0, 3, 3, []), true, 2, 0, 0, [], [], (0, [], [], [], []))
def n_jStr_length_v242_an : List an_T := []
def t_jStr_length_v242_ct : ct_L := [(22, 335, e_jStr_coder_v172), (1000003, 9, en_ro [(2, 0, 0, [5024])] (2, 0, 0, [5224])), (1000004, 0, en_ro [(2, 0, 0, [5224])] (0, 3, 3, []))]
set_option maxRecDepth 100000 in
theorem c_jStr_length_v242 {l : Launch} {D : va_G} {kA : Nat → ClassId} : ct_ok l D kA GG y_jStr_length z_jStr_length e_jStr_length_v242 := chk_all_ok (FT := []) (PT := []) (CT := t_jStr_length_v242_ct) (KT := []) (NT := []) (AN := n_jStr_length_v242_an) (OT := []) 0 200 (List.forall_mem_nil _) (by decide +kernel) ⟨List.forall_mem_nil _, List.forall_mem_nil _, List.forall_mem_cons.mpr ⟨cl_stringS (y := y_jStr_coder) (rs := ro_strs) rfl (by decide +kernel) rfl c_jStr_coder_v172 wm_678 wm_11 wm_675 wm_676 wm_677 ⟨by decide, by decide, by decide +kernel⟩ (by decide), List.forall_mem_cons.mpr ⟨cl_value (i := 24) wm_3969 rfl (by decide +kernel) (by decide +kernel) (by decide +kernel), List.forall_mem_cons.mpr ⟨cl_tlen (i := 24) (n := 3) rfl (by decide +kernel) (by decide +kernel) (by decide +kernel), List.forall_mem_nil _⟩⟩⟩, List.forall_mem_nil _, List.forall_mem_nil _, GG_pl⟩ (by decide +kernel)
def e_jStr_length_v245 : en_T := ([(2, 0, 0, [5025])], some (0, 3, 3, []), true, 2, 0, 0, [], [], (0, [], [], [], []))
def n_jStr_length_v245_an : List an_T := []
def t_jStr_length_v245_ct : ct_L := [(22, 335, e_jStr_coder_v172), (1000003, 9, en_ro [(2, 0, 0, [5025])] (2, 0, 0, [5225])), (1000004, 0, en_ro [(2, 0, 0, [5225])] (0, 3, 3, []))]
set_option maxRecDepth 100000 in
theorem c_jStr_length_v245 {l : Launch} {D : va_G} {kA : Nat → ClassId} : ct_ok l D kA GG y_jStr_length z_jStr_length e_jStr_length_v245 := chk_all_ok (FT := []) (PT := []) (CT := t_jStr_length_v245_ct) (KT := []) (NT := []) (AN := n_jStr_length_v245_an) (OT := []) 0 200 (List.forall_mem_nil _) (by decide +kernel) ⟨List.forall_mem_nil _, List.forall_mem_nil _, List.forall_mem_cons.mpr ⟨cl_stringS (y := y_jStr_coder) (rs := ro_strs) rfl (by decide +kernel) rfl c_jStr_coder_v172 wm_678 wm_11 wm_675 wm_676 wm_677 ⟨by decide, by decide, by decide +kernel⟩ (by decide), List.forall_mem_cons.mpr ⟨cl_value (i := 25) wm_3969 rfl (by decide +kernel) (by decide +kernel) (by decide +kernel), List.forall_mem_cons.mpr ⟨cl_tlen (i := 25) (n := 3) rfl (by decide +kernel) (by decide +kernel) (by decide +kernel), List.forall_mem_nil _⟩⟩⟩, List.forall_mem_nil _, List.forall_mem_nil _, GG_pl⟩ (by decide +kernel)
def e_jStr_length_v248 : en_T := ([(2, 0, 0, [5026])], some (0, 2, 2, []), true, 2, 0, 0, [], [], (0, [], [], [], []))
def n_jStr_length_v248_an : List an_T := []
def t_jStr_length_v248_ct : ct_L := [(22, 335, e_jStr_coder_v172), (1000003, 9, en_ro [(2, 0, 0, [5026])] (2, 0, 0, [5226])), (1000004, 0, en_ro [(2, 0, 0, [5226])] (0, 2, 2, []))]
set_option maxRecDepth 100000 in
theorem c_jStr_length_v248 {l : Launch} {D : va_G} {kA : Nat → ClassId} : ct_ok l D kA GG y_jStr_length z_jStr_length e_jStr_length_v248 := chk_all_ok (FT := []) (PT := []) (CT := t_jStr_length_v248_ct) (KT := []) (NT := []) (AN := n_jStr_length_v248_an) (OT := []) 0 200 (List.forall_mem_nil _) (by decide +kernel) ⟨List.forall_mem_nil _, List.forall_mem_nil _, List.forall_mem_cons.mpr ⟨cl_stringS (y := y_jStr_coder) (rs := ro_strs) rfl (by decide +kernel) rfl c_jStr_coder_v172 wm_678 wm_11 wm_675 wm_676 wm_677 ⟨by decide, by decide, by decide +kernel⟩ (by decide), List.forall_mem_cons.mpr ⟨cl_value (i := 26) wm_3969 rfl (by decide +kernel) (by decide +kernel) (by decide +kernel), List.forall_mem_cons.mpr ⟨cl_tlen (i := 26) (n := 2) rfl (by decide +kernel) (by decide +kernel) (by decide +kernel), List.forall_mem_nil _⟩⟩⟩, List.forall_mem_nil _, List.forall_mem_nil _, GG_pl⟩ (by decide +kernel)
def e_jStr_length_v251 : en_T := ([(2, 0, 0, [5027])], some (0, 3, 3, []), true, 2, 0, 0, [], [], (0, [], [], [], []))
def n_jStr_length_v251_an : List an_T := []
def t_jStr_length_v251_ct : ct_L := [(22, 335, e_jStr_coder_v172), (1000003, 9, en_ro [(2, 0, 0, [5027])] (2, 0, 0, [5227])), (1000004, 0, en_ro [(2, 0, 0, [5227])] (0, 3, 3, []))]
set_option maxRecDepth 100000 in
theorem c_jStr_length_v251 {l : Launch} {D : va_G} {kA : Nat → ClassId} : ct_ok l D kA GG y_jStr_length z_jStr_length e_jStr_length_v251 := chk_all_ok (FT := []) (PT := []) (CT := t_jStr_length_v251_ct) (KT := []) (NT := []) (AN := n_jStr_length_v251_an) (OT := []) 0 200 (List.forall_mem_nil _) (by decide +kernel) ⟨List.forall_mem_nil _, List.forall_mem_nil _, List.forall_mem_cons.mpr ⟨cl_stringS (y := y_jStr_coder) (rs := ro_strs) rfl (by decide +kernel) rfl c_jStr_coder_v172 wm_678 wm_11 wm_675 wm_676 wm_677 ⟨by decide, by decide, by decide +kernel⟩ (by decide), List.forall_mem_cons.mpr ⟨cl_value (i := 27) wm_3969 rfl (by decide +kernel) (by decide +kernel) (by decide +kernel), List.forall_mem_cons.mpr ⟨cl_tlen (i := 27) (n := 3) rfl (by decide +kernel) (by decide +kernel) (by decide +kernel), List.forall_mem_nil _⟩⟩⟩, List.forall_mem_nil _, List.forall_mem_nil _, GG_pl⟩ (by decide +kernel)
def e_jStr_length_v254 : en_T := ([(2, 0, 0, [5028])], some (0, 3, 3, []), true, 2, 0, 0, [], [], (0, [], [], [], []))
def n_jStr_length_v254_an : List an_T := []
def t_jStr_length_v254_ct : ct_L := [(22, 335, e_jStr_coder_v172), (1000003, 9, en_ro [(2, 0, 0, [5028])] (2, 0, 0, [5228])), (1000004, 0, en_ro [(2, 0, 0, [5228])] (0, 3, 3, []))]
set_option maxRecDepth 100000 in
theorem c_jStr_length_v254 {l : Launch} {D : va_G} {kA : Nat → ClassId} : ct_ok l D kA GG y_jStr_length z_jStr_length e_jStr_length_v254 := chk_all_ok (FT := []) (PT := []) (CT := t_jStr_length_v254_ct) (KT := []) (NT := []) (AN := n_jStr_length_v254_an) (OT := []) 0 200 (List.forall_mem_nil _) (by decide +kernel) ⟨List.forall_mem_nil _, List.forall_mem_nil _, List.forall_mem_cons.mpr ⟨cl_stringS (y := y_jStr_coder) (rs := ro_strs) rfl (by decide +kernel) rfl c_jStr_coder_v172 wm_678 wm_11 wm_675 wm_676 wm_677 ⟨by decide, by decide, by decide +kernel⟩ (by decide), List.forall_mem_cons.mpr ⟨cl_value (i := 28) wm_3969 rfl (by decide +kernel) (by decide +kernel) (by decide +kernel), List.forall_mem_cons.mpr ⟨cl_tlen (i := 28) (n := 3) rfl (by decide +kernel) (by decide +kernel) (by decide +kernel), List.forall_mem_nil _⟩⟩⟩, List.forall_mem_nil _, List.forall_mem_nil _, GG_pl⟩ (by decide +kernel)
def e_jStr_length_v257 : en_T := ([(2, 0, 0, [5029])], some (0, 4, 4, []), true, 2, 0, 0, [], [], (0, [], [], [], []))
def n_jStr_length_v257_an : List an_T := []
def t_jStr_length_v257_ct : ct_L := [(22, 335, e_jStr_coder_v172), (1000003, 9, en_ro [(2, 0, 0, [5029])] (2, 0, 0, [5229])), (1000004, 0, en_ro [(2, 0, 0, [5229])] (0, 4, 4, []))]
set_option maxRecDepth 100000 in
theorem c_jStr_length_v257 {l : Launch} {D : va_G} {kA : Nat → ClassId} : ct_ok l D kA GG y_jStr_length z_jStr_length e_jStr_length_v257 := chk_all_ok (FT := []) (PT := []) (CT := t_jStr_length_v257_ct) (KT := []) (NT := []) (AN := n_jStr_length_v257_an) (OT := []) 0 200 (List.forall_mem_nil _) (by decide +kernel) ⟨List.forall_mem_nil _, List.forall_mem_nil _, List.forall_mem_cons.mpr ⟨cl_stringS (y := y_jStr_coder) (rs := ro_strs) rfl (by decide +kernel) rfl c_jStr_coder_v172 wm_678 wm_11 wm_675 wm_676 wm_677 ⟨by decide, by decide, by decide +kernel⟩ (by decide), List.forall_mem_cons.mpr ⟨cl_value (i := 29) wm_3969 rfl (by decide +kernel) (by decide +kernel) (by decide +kernel), List.forall_mem_cons.mpr ⟨cl_tlen (i := 29) (n := 4) rfl (by decide +kernel) (by decide +kernel) (by decide +kernel), List.forall_mem_nil _⟩⟩⟩, List.forall_mem_nil _, List.forall_mem_nil _, GG_pl⟩ (by decide +kernel)
def e_jStr_length_v260 : en_T := ([(2, 0, 0, [5030])], some (0, 3, 3, []), true, 2, 0, 0, [], [], (0, [], [], [], []))
def n_jStr_length_v260_an : List an_T := []
def t_jStr_length_v260_ct : ct_L := [(22, 335, e_jStr_coder_v172), (1000003, 9, en_ro [(2, 0, 0, [5030])] (2, 0, 0, [5230])), (1000004, 0, en_ro [(2, 0, 0, [5230])] (0, 3, 3, []))]
set_option maxRecDepth 100000 in
theorem c_jStr_length_v260 {l : Launch} {D : va_G} {kA : Nat → ClassId} : ct_ok l D kA GG y_jStr_length z_jStr_length e_jStr_length_v260 := chk_all_ok (FT := []) (PT := []) (CT := t_jStr_length_v260_ct) (KT := []) (NT := []) (AN := n_jStr_length_v260_an) (OT := []) 0 200 (List.forall_mem_nil _) (by decide +kernel) ⟨List.forall_mem_nil _, List.forall_mem_nil _, List.forall_mem_cons.mpr ⟨cl_stringS (y := y_jStr_coder) (rs := ro_strs) rfl (by decide +kernel) rfl c_jStr_coder_v172 wm_678 wm_11 wm_675 wm_676 wm_677 ⟨by decide, by decide, by decide +kernel⟩ (by decide), List.forall_mem_cons.mpr ⟨cl_value (i := 30) wm_3969 rfl (by decide +kernel) (by decide +kernel) (by decide +kernel), List.forall_mem_cons.mpr ⟨cl_tlen (i := 30) (n := 3) rfl (by decide +kernel) (by decide +kernel) (by decide +kernel), List.forall_mem_nil _⟩⟩⟩, List.forall_mem_nil _, List.forall_mem_nil _, GG_pl⟩ (by decide +kernel)
def e_jStr_length_v263 : en_T := ([(2, 0, 0, [5031])], some (0, 1, 1, []), true, 2, 0, 0, [], [], (0, [], [], [], []))
def n_jStr_length_v263_an : List an_T := []
def t_jStr_length_v263_ct : ct_L := [(22, 335, e_jStr_coder_v172), (1000003, 9, en_ro [(2, 0, 0, [5031])] (2, 0, 0, [5231])), (1000004, 0, en_ro [(2, 0, 0, [5231])] (0, 1, 1, []))]
set_option maxRecDepth 100000 in
theorem c_jStr_length_v263 {l : Launch} {D : va_G} {kA : Nat → ClassId} : ct_ok l D kA GG y_jStr_length z_jStr_length e_jStr_length_v263 := chk_all_ok (FT := []) (PT := []) (CT := t_jStr_length_v263_ct) (KT := []) (NT := []) (AN := n_jStr_length_v263_an) (OT := []) 0 200 (List.forall_mem_nil _) (by decide +kernel) ⟨List.forall_mem_nil _, List.forall_mem_nil _, List.forall_mem_cons.mpr ⟨cl_stringS (y := y_jStr_coder) (rs := ro_strs) rfl (by decide +kernel) rfl c_jStr_coder_v172 wm_678 wm_11 wm_675 wm_676 wm_677 ⟨by decide, by decide, by decide +kernel⟩ (by decide), List.forall_mem_cons.mpr ⟨cl_value (i := 31) wm_3969 rfl (by decide +kernel) (by decide +kernel) (by decide +kernel), List.forall_mem_cons.mpr ⟨cl_tlen (i := 31) (n := 1) rfl (by decide +kernel) (by decide +kernel) (by decide +kernel), List.forall_mem_nil _⟩⟩⟩, List.forall_mem_nil _, List.forall_mem_nil _, GG_pl⟩ (by decide +kernel)
def e_jStr_checkIndex_v266 : en_T := ([(0, 0, 0, []), (0, 1, 1, [])], none, true, 2, 0, 0, [], [], (0, [], [], [], []))
def n_jStr_checkIndex_v266_an : List an_T := []
def t_jStr_checkIndex_v266_ct : ct_L := [(18, 1059, e_jPre_checkIndex_v267), (1000002, 1053, en_ro [] (3, 0, 0, ro_ids))]
set_option maxRecDepth 100000 in
theorem c_jStr_checkIndex_v266 {l : Launch} {D : va_G} {kA : Nat → ClassId} : ct_ok l D kA GG y_jStr_checkIndex z_jStr_checkIndex e_jStr_checkIndex_v266 := chk_all_ok (FT := []) (PT := []) (CT := t_jStr_checkIndex_v266_ct) (KT := []) (NT := []) (AN := n_jStr_checkIndex_v266_an) (OT := []) 0 200 (List.forall_mem_nil _) (by decide +kernel) ⟨List.forall_mem_nil _, List.forall_mem_nil _, List.forall_mem_cons.mpr ⟨cl_static (y := y_jPre_checkIndex) c_jPre_checkIndex_v267 wm_699 wm_13 wm_697 wm_698 ⟨by decide, by decide, by decide +kernel⟩ (by decide), List.forall_mem_cons.mpr ⟨cl_format wm_695, List.forall_mem_nil _⟩⟩, List.forall_mem_nil _, List.forall_mem_nil _, GG_pl⟩ (by decide +kernel)
def e_jStr_length_v268 : en_T := ([(2, 0, 0, [5032])], some (0, 1, 1, []), true, 2, 0, 0, [], [], (0, [], [], [], []))
def n_jStr_length_v268_an : List an_T := []
def t_jStr_length_v268_ct : ct_L := [(22, 335, e_jStr_coder_v172), (1000003, 9, en_ro [(2, 0, 0, [5032])] (2, 0, 0, [5232])), (1000004, 0, en_ro [(2, 0, 0, [5232])] (0, 1, 1, []))]
set_option maxRecDepth 100000 in
theorem c_jStr_length_v268 {l : Launch} {D : va_G} {kA : Nat → ClassId} : ct_ok l D kA GG y_jStr_length z_jStr_length e_jStr_length_v268 := chk_all_ok (FT := []) (PT := []) (CT := t_jStr_length_v268_ct) (KT := []) (NT := []) (AN := n_jStr_length_v268_an) (OT := []) 0 200 (List.forall_mem_nil _) (by decide +kernel) ⟨List.forall_mem_nil _, List.forall_mem_nil _, List.forall_mem_cons.mpr ⟨cl_stringS (y := y_jStr_coder) (rs := ro_strs) rfl (by decide +kernel) rfl c_jStr_coder_v172 wm_678 wm_11 wm_675 wm_676 wm_677 ⟨by decide, by decide, by decide +kernel⟩ (by decide), List.forall_mem_cons.mpr ⟨cl_value (i := 32) wm_3969 rfl (by decide +kernel) (by decide +kernel) (by decide +kernel), List.forall_mem_cons.mpr ⟨cl_tlen (i := 32) (n := 1) rfl (by decide +kernel) (by decide +kernel) (by decide +kernel), List.forall_mem_nil _⟩⟩⟩, List.forall_mem_nil _, List.forall_mem_nil _, GG_pl⟩ (by decide +kernel)
def e_jStr_length_v271 : en_T := ([(2, 0, 0, [5033])], some (0, 6, 6, []), true, 2, 0, 0, [], [], (0, [], [], [], []))
def n_jStr_length_v271_an : List an_T := []
def t_jStr_length_v271_ct : ct_L := [(22, 335, e_jStr_coder_v172), (1000003, 9, en_ro [(2, 0, 0, [5033])] (2, 0, 0, [5233])), (1000004, 0, en_ro [(2, 0, 0, [5233])] (0, 6, 6, []))]
set_option maxRecDepth 100000 in
theorem c_jStr_length_v271 {l : Launch} {D : va_G} {kA : Nat → ClassId} : ct_ok l D kA GG y_jStr_length z_jStr_length e_jStr_length_v271 := chk_all_ok (FT := []) (PT := []) (CT := t_jStr_length_v271_ct) (KT := []) (NT := []) (AN := n_jStr_length_v271_an) (OT := []) 0 200 (List.forall_mem_nil _) (by decide +kernel) ⟨List.forall_mem_nil _, List.forall_mem_nil _, List.forall_mem_cons.mpr ⟨cl_stringS (y := y_jStr_coder) (rs := ro_strs) rfl (by decide +kernel) rfl c_jStr_coder_v172 wm_678 wm_11 wm_675 wm_676 wm_677 ⟨by decide, by decide, by decide +kernel⟩ (by decide), List.forall_mem_cons.mpr ⟨cl_value (i := 33) wm_3969 rfl (by decide +kernel) (by decide +kernel) (by decide +kernel), List.forall_mem_cons.mpr ⟨cl_tlen (i := 33) (n := 6) rfl (by decide +kernel) (by decide +kernel) (by decide +kernel), List.forall_mem_nil _⟩⟩⟩, List.forall_mem_nil _, List.forall_mem_nil _, GG_pl⟩ (by decide +kernel)
def e_jStr_length_v274 : en_T := ([(2, 0, 0, [5034])], some (0, 6, 6, []), true, 2, 0, 0, [], [], (0, [], [], [], []))
def n_jStr_length_v274_an : List an_T := []
def t_jStr_length_v274_ct : ct_L := [(22, 335, e_jStr_coder_v172), (1000003, 9, en_ro [(2, 0, 0, [5034])] (2, 0, 0, [5234])), (1000004, 0, en_ro [(2, 0, 0, [5234])] (0, 6, 6, []))]
set_option maxRecDepth 100000 in
theorem c_jStr_length_v274 {l : Launch} {D : va_G} {kA : Nat → ClassId} : ct_ok l D kA GG y_jStr_length z_jStr_length e_jStr_length_v274 := chk_all_ok (FT := []) (PT := []) (CT := t_jStr_length_v274_ct) (KT := []) (NT := []) (AN := n_jStr_length_v274_an) (OT := []) 0 200 (List.forall_mem_nil _) (by decide +kernel) ⟨List.forall_mem_nil _, List.forall_mem_nil _, List.forall_mem_cons.mpr ⟨cl_stringS (y := y_jStr_coder) (rs := ro_strs) rfl (by decide +kernel) rfl c_jStr_coder_v172 wm_678 wm_11 wm_675 wm_676 wm_677 ⟨by decide, by decide, by decide +kernel⟩ (by decide), List.forall_mem_cons.mpr ⟨cl_value (i := 34) wm_3969 rfl (by decide +kernel) (by decide +kernel) (by decide +kernel), List.forall_mem_cons.mpr ⟨cl_tlen (i := 34) (n := 6) rfl (by decide +kernel) (by decide +kernel) (by decide +kernel), List.forall_mem_nil _⟩⟩⟩, List.forall_mem_nil _, List.forall_mem_nil _, GG_pl⟩ (by decide +kernel)
def e_jStr_length_v277 : en_T := ([(2, 0, 0, [5035])], some (0, 4, 4, []), true, 2, 0, 0, [], [], (0, [], [], [], []))
def n_jStr_length_v277_an : List an_T := []
def t_jStr_length_v277_ct : ct_L := [(22, 335, e_jStr_coder_v172), (1000003, 9, en_ro [(2, 0, 0, [5035])] (2, 0, 0, [5235])), (1000004, 0, en_ro [(2, 0, 0, [5235])] (0, 4, 4, []))]
set_option maxRecDepth 100000 in
theorem c_jStr_length_v277 {l : Launch} {D : va_G} {kA : Nat → ClassId} : ct_ok l D kA GG y_jStr_length z_jStr_length e_jStr_length_v277 := chk_all_ok (FT := []) (PT := []) (CT := t_jStr_length_v277_ct) (KT := []) (NT := []) (AN := n_jStr_length_v277_an) (OT := []) 0 200 (List.forall_mem_nil _) (by decide +kernel) ⟨List.forall_mem_nil _, List.forall_mem_nil _, List.forall_mem_cons.mpr ⟨cl_stringS (y := y_jStr_coder) (rs := ro_strs) rfl (by decide +kernel) rfl c_jStr_coder_v172 wm_678 wm_11 wm_675 wm_676 wm_677 ⟨by decide, by decide, by decide +kernel⟩ (by decide), List.forall_mem_cons.mpr ⟨cl_value (i := 35) wm_3969 rfl (by decide +kernel) (by decide +kernel) (by decide +kernel), List.forall_mem_cons.mpr ⟨cl_tlen (i := 35) (n := 4) rfl (by decide +kernel) (by decide +kernel) (by decide +kernel), List.forall_mem_nil _⟩⟩⟩, List.forall_mem_nil _, List.forall_mem_nil _, GG_pl⟩ (by decide +kernel)
def e_jStr_length_v280 : en_T := ([(2, 0, 0, [5036])], some (0, 2, 2, []), true, 2, 0, 0, [], [], (0, [], [], [], []))
def n_jStr_length_v280_an : List an_T := []
def t_jStr_length_v280_ct : ct_L := [(22, 335, e_jStr_coder_v172), (1000003, 9, en_ro [(2, 0, 0, [5036])] (2, 0, 0, [5236])), (1000004, 0, en_ro [(2, 0, 0, [5236])] (0, 2, 2, []))]
set_option maxRecDepth 100000 in
theorem c_jStr_length_v280 {l : Launch} {D : va_G} {kA : Nat → ClassId} : ct_ok l D kA GG y_jStr_length z_jStr_length e_jStr_length_v280 := chk_all_ok (FT := []) (PT := []) (CT := t_jStr_length_v280_ct) (KT := []) (NT := []) (AN := n_jStr_length_v280_an) (OT := []) 0 200 (List.forall_mem_nil _) (by decide +kernel) ⟨List.forall_mem_nil _, List.forall_mem_nil _, List.forall_mem_cons.mpr ⟨cl_stringS (y := y_jStr_coder) (rs := ro_strs) rfl (by decide +kernel) rfl c_jStr_coder_v172 wm_678 wm_11 wm_675 wm_676 wm_677 ⟨by decide, by decide, by decide +kernel⟩ (by decide), List.forall_mem_cons.mpr ⟨cl_value (i := 36) wm_3969 rfl (by decide +kernel) (by decide +kernel) (by decide +kernel), List.forall_mem_cons.mpr ⟨cl_tlen (i := 36) (n := 2) rfl (by decide +kernel) (by decide +kernel) (by decide +kernel), List.forall_mem_nil _⟩⟩⟩, List.forall_mem_nil _, List.forall_mem_nil _, GG_pl⟩ (by decide +kernel)
def e_jStr_length_v283 : en_T := ([(2, 0, 0, [5037])], some (0, 5, 5, []), true, 2, 0, 0, [], [], (0, [], [], [], []))
def n_jStr_length_v283_an : List an_T := []
def t_jStr_length_v283_ct : ct_L := [(22, 335, e_jStr_coder_v172), (1000003, 9, en_ro [(2, 0, 0, [5037])] (2, 0, 0, [5237])), (1000004, 0, en_ro [(2, 0, 0, [5237])] (0, 5, 5, []))]
set_option maxRecDepth 100000 in
theorem c_jStr_length_v283 {l : Launch} {D : va_G} {kA : Nat → ClassId} : ct_ok l D kA GG y_jStr_length z_jStr_length e_jStr_length_v283 := chk_all_ok (FT := []) (PT := []) (CT := t_jStr_length_v283_ct) (KT := []) (NT := []) (AN := n_jStr_length_v283_an) (OT := []) 0 200 (List.forall_mem_nil _) (by decide +kernel) ⟨List.forall_mem_nil _, List.forall_mem_nil _, List.forall_mem_cons.mpr ⟨cl_stringS (y := y_jStr_coder) (rs := ro_strs) rfl (by decide +kernel) rfl c_jStr_coder_v172 wm_678 wm_11 wm_675 wm_676 wm_677 ⟨by decide, by decide, by decide +kernel⟩ (by decide), List.forall_mem_cons.mpr ⟨cl_value (i := 37) wm_3969 rfl (by decide +kernel) (by decide +kernel) (by decide +kernel), List.forall_mem_cons.mpr ⟨cl_tlen (i := 37) (n := 5) rfl (by decide +kernel) (by decide +kernel) (by decide +kernel), List.forall_mem_nil _⟩⟩⟩, List.forall_mem_nil _, List.forall_mem_nil _, GG_pl⟩ (by decide +kernel)
def e_jStr_length_v286 : en_T := ([(2, 0, 0, [5038])], some (0, 4, 4, []), true, 2, 0, 0, [], [], (0, [], [], [], []))
def n_jStr_length_v286_an : List an_T := []
def t_jStr_length_v286_ct : ct_L := [(22, 335, e_jStr_coder_v172), (1000003, 9, en_ro [(2, 0, 0, [5038])] (2, 0, 0, [5238])), (1000004, 0, en_ro [(2, 0, 0, [5238])] (0, 4, 4, []))]
set_option maxRecDepth 100000 in
theorem c_jStr_length_v286 {l : Launch} {D : va_G} {kA : Nat → ClassId} : ct_ok l D kA GG y_jStr_length z_jStr_length e_jStr_length_v286 := chk_all_ok (FT := []) (PT := []) (CT := t_jStr_length_v286_ct) (KT := []) (NT := []) (AN := n_jStr_length_v286_an) (OT := []) 0 200 (List.forall_mem_nil _) (by decide +kernel) ⟨List.forall_mem_nil _, List.forall_mem_nil _, List.forall_mem_cons.mpr ⟨cl_stringS (y := y_jStr_coder) (rs := ro_strs) rfl (by decide +kernel) rfl c_jStr_coder_v172 wm_678 wm_11 wm_675 wm_676 wm_677 ⟨by decide, by decide, by decide +kernel⟩ (by decide), List.forall_mem_cons.mpr ⟨cl_value (i := 38) wm_3969 rfl (by decide +kernel) (by decide +kernel) (by decide +kernel), List.forall_mem_cons.mpr ⟨cl_tlen (i := 38) (n := 4) rfl (by decide +kernel) (by decide +kernel) (by decide +kernel), List.forall_mem_nil _⟩⟩⟩, List.forall_mem_nil _, List.forall_mem_nil _, GG_pl⟩ (by decide +kernel)
def e_jStr_length_v289 : en_T := ([(2, 0, 0, [5039])], some (0, 3, 3, []), true, 2, 0, 0, [], [], (0, [], [], [], []))
def n_jStr_length_v289_an : List an_T := []
def t_jStr_length_v289_ct : ct_L := [(22, 335, e_jStr_coder_v172), (1000003, 9, en_ro [(2, 0, 0, [5039])] (2, 0, 0, [5239])), (1000004, 0, en_ro [(2, 0, 0, [5239])] (0, 3, 3, []))]
set_option maxRecDepth 100000 in
theorem c_jStr_length_v289 {l : Launch} {D : va_G} {kA : Nat → ClassId} : ct_ok l D kA GG y_jStr_length z_jStr_length e_jStr_length_v289 := chk_all_ok (FT := []) (PT := []) (CT := t_jStr_length_v289_ct) (KT := []) (NT := []) (AN := n_jStr_length_v289_an) (OT := []) 0 200 (List.forall_mem_nil _) (by decide +kernel) ⟨List.forall_mem_nil _, List.forall_mem_nil _, List.forall_mem_cons.mpr ⟨cl_stringS (y := y_jStr_coder) (rs := ro_strs) rfl (by decide +kernel) rfl c_jStr_coder_v172 wm_678 wm_11 wm_675 wm_676 wm_677 ⟨by decide, by decide, by decide +kernel⟩ (by decide), List.forall_mem_cons.mpr ⟨cl_value (i := 39) wm_3969 rfl (by decide +kernel) (by decide +kernel) (by decide +kernel), List.forall_mem_cons.mpr ⟨cl_tlen (i := 39) (n := 3) rfl (by decide +kernel) (by decide +kernel) (by decide +kernel), List.forall_mem_nil _⟩⟩⟩, List.forall_mem_nil _, List.forall_mem_nil _, GG_pl⟩ (by decide +kernel)
def e_jStr_length_v292 : en_T := ([(2, 0, 0, [5040])], some (0, 3, 3, []), true, 2, 0, 0, [], [], (0, [], [], [], []))
def n_jStr_length_v292_an : List an_T := []
def t_jStr_length_v292_ct : ct_L := [(22, 335, e_jStr_coder_v172), (1000003, 9, en_ro [(2, 0, 0, [5040])] (2, 0, 0, [5240])), (1000004, 0, en_ro [(2, 0, 0, [5240])] (0, 3, 3, []))]
set_option maxRecDepth 100000 in
theorem c_jStr_length_v292 {l : Launch} {D : va_G} {kA : Nat → ClassId} : ct_ok l D kA GG y_jStr_length z_jStr_length e_jStr_length_v292 := chk_all_ok (FT := []) (PT := []) (CT := t_jStr_length_v292_ct) (KT := []) (NT := []) (AN := n_jStr_length_v292_an) (OT := []) 0 200 (List.forall_mem_nil _) (by decide +kernel) ⟨List.forall_mem_nil _, List.forall_mem_nil _, List.forall_mem_cons.mpr ⟨cl_stringS (y := y_jStr_coder) (rs := ro_strs) rfl (by decide +kernel) rfl c_jStr_coder_v172 wm_678 wm_11 wm_675 wm_676 wm_677 ⟨by decide, by decide, by decide +kernel⟩ (by decide), List.forall_mem_cons.mpr ⟨cl_value (i := 40) wm_3969 rfl (by decide +kernel) (by decide +kernel) (by decide +kernel), List.forall_mem_cons.mpr ⟨cl_tlen (i := 40) (n := 3) rfl (by decide +kernel) (by decide +kernel) (by decide +kernel), List.forall_mem_nil _⟩⟩⟩, List.forall_mem_nil _, List.forall_mem_nil _, GG_pl⟩ (by decide +kernel)
def e_jStr_length_v295 : en_T := ([(2, 0, 0, [5041])], some (0, 2, 2, []), true, 2, 0, 0, [], [], (0, [], [], [], []))
def n_jStr_length_v295_an : List an_T := []
def t_jStr_length_v295_ct : ct_L := [(22, 335, e_jStr_coder_v172), (1000003, 9, en_ro [(2, 0, 0, [5041])] (2, 0, 0, [5241])), (1000004, 0, en_ro [(2, 0, 0, [5241])] (0, 2, 2, []))]
set_option maxRecDepth 100000 in
theorem c_jStr_length_v295 {l : Launch} {D : va_G} {kA : Nat → ClassId} : ct_ok l D kA GG y_jStr_length z_jStr_length e_jStr_length_v295 := chk_all_ok (FT := []) (PT := []) (CT := t_jStr_length_v295_ct) (KT := []) (NT := []) (AN := n_jStr_length_v295_an) (OT := []) 0 200 (List.forall_mem_nil _) (by decide +kernel) ⟨List.forall_mem_nil _, List.forall_mem_nil _, List.forall_mem_cons.mpr ⟨cl_stringS (y := y_jStr_coder) (rs := ro_strs) rfl (by decide +kernel) rfl c_jStr_coder_v172 wm_678 wm_11 wm_675 wm_676 wm_677 ⟨by decide, by decide, by decide +kernel⟩ (by decide), List.forall_mem_cons.mpr ⟨cl_value (i := 41) wm_3969 rfl (by decide +kernel) (by decide +kernel) (by decide +kernel), List.forall_mem_cons.mpr ⟨cl_tlen (i := 41) (n := 2) rfl (by decide +kernel) (by decide +kernel) (by decide +kernel), List.forall_mem_nil _⟩⟩⟩, List.forall_mem_nil _, List.forall_mem_nil _, GG_pl⟩ (by decide +kernel)
def e_jStr_length_v298 : en_T := ([(2, 0, 0, [5042])], some (0, 5, 5, []), true, 2, 0, 0, [], [], (0, [], [], [], []))
def n_jStr_length_v298_an : List an_T := []
def t_jStr_length_v298_ct : ct_L := [(22, 335, e_jStr_coder_v172), (1000003, 9, en_ro [(2, 0, 0, [5042])] (2, 0, 0, [5242])), (1000004, 0, en_ro [(2, 0, 0, [5242])] (0, 5, 5, []))]
set_option maxRecDepth 100000 in
theorem c_jStr_length_v298 {l : Launch} {D : va_G} {kA : Nat → ClassId} : ct_ok l D kA GG y_jStr_length z_jStr_length e_jStr_length_v298 := chk_all_ok (FT := []) (PT := []) (CT := t_jStr_length_v298_ct) (KT := []) (NT := []) (AN := n_jStr_length_v298_an) (OT := []) 0 200 (List.forall_mem_nil _) (by decide +kernel) ⟨List.forall_mem_nil _, List.forall_mem_nil _, List.forall_mem_cons.mpr ⟨cl_stringS (y := y_jStr_coder) (rs := ro_strs) rfl (by decide +kernel) rfl c_jStr_coder_v172 wm_678 wm_11 wm_675 wm_676 wm_677 ⟨by decide, by decide, by decide +kernel⟩ (by decide), List.forall_mem_cons.mpr ⟨cl_value (i := 42) wm_3969 rfl (by decide +kernel) (by decide +kernel) (by decide +kernel), List.forall_mem_cons.mpr ⟨cl_tlen (i := 42) (n := 5) rfl (by decide +kernel) (by decide +kernel) (by decide +kernel), List.forall_mem_nil _⟩⟩⟩, List.forall_mem_nil _, List.forall_mem_nil _, GG_pl⟩ (by decide +kernel)
def e_jStr_length_v301 : en_T := ([(2, 0, 0, [5043])], some (0, 5, 5, []), true, 2, 0, 0, [], [], (0, [], [], [], []))
def n_jStr_length_v301_an : List an_T := []
def t_jStr_length_v301_ct : ct_L := [(22, 335, e_jStr_coder_v172), (1000003, 9, en_ro [(2, 0, 0, [5043])] (2, 0, 0, [5243])), (1000004, 0, en_ro [(2, 0, 0, [5243])] (0, 5, 5, []))]
set_option maxRecDepth 100000 in
theorem c_jStr_length_v301 {l : Launch} {D : va_G} {kA : Nat → ClassId} : ct_ok l D kA GG y_jStr_length z_jStr_length e_jStr_length_v301 := chk_all_ok (FT := []) (PT := []) (CT := t_jStr_length_v301_ct) (KT := []) (NT := []) (AN := n_jStr_length_v301_an) (OT := []) 0 200 (List.forall_mem_nil _) (by decide +kernel) ⟨List.forall_mem_nil _, List.forall_mem_nil _, List.forall_mem_cons.mpr ⟨cl_stringS (y := y_jStr_coder) (rs := ro_strs) rfl (by decide +kernel) rfl c_jStr_coder_v172 wm_678 wm_11 wm_675 wm_676 wm_677 ⟨by decide, by decide, by decide +kernel⟩ (by decide), List.forall_mem_cons.mpr ⟨cl_value (i := 43) wm_3969 rfl (by decide +kernel) (by decide +kernel) (by decide +kernel), List.forall_mem_cons.mpr ⟨cl_tlen (i := 43) (n := 5) rfl (by decide +kernel) (by decide +kernel) (by decide +kernel), List.forall_mem_nil _⟩⟩⟩, List.forall_mem_nil _, List.forall_mem_nil _, GG_pl⟩ (by decide +kernel)
def e_jStr_length_v304 : en_T := ([(2, 0, 0, [5044])], some (0, 4, 4, []), true, 2, 0, 0, [], [], (0, [], [], [], []))
def n_jStr_length_v304_an : List an_T := []
def t_jStr_length_v304_ct : ct_L := [(22, 335, e_jStr_coder_v172), (1000003, 9, en_ro [(2, 0, 0, [5044])] (2, 0, 0, [5244])), (1000004, 0, en_ro [(2, 0, 0, [5244])] (0, 4, 4, []))]
set_option maxRecDepth 100000 in
theorem c_jStr_length_v304 {l : Launch} {D : va_G} {kA : Nat → ClassId} : ct_ok l D kA GG y_jStr_length z_jStr_length e_jStr_length_v304 := chk_all_ok (FT := []) (PT := []) (CT := t_jStr_length_v304_ct) (KT := []) (NT := []) (AN := n_jStr_length_v304_an) (OT := []) 0 200 (List.forall_mem_nil _) (by decide +kernel) ⟨List.forall_mem_nil _, List.forall_mem_nil _, List.forall_mem_cons.mpr ⟨cl_stringS (y := y_jStr_coder) (rs := ro_strs) rfl (by decide +kernel) rfl c_jStr_coder_v172 wm_678 wm_11 wm_675 wm_676 wm_677 ⟨by decide, by decide, by decide +kernel⟩ (by decide), List.forall_mem_cons.mpr ⟨cl_value (i := 44) wm_3969 rfl (by decide +kernel) (by decide +kernel) (by decide +kernel), List.forall_mem_cons.mpr ⟨cl_tlen (i := 44) (n := 4) rfl (by decide +kernel) (by decide +kernel) (by decide +kernel), List.forall_mem_nil _⟩⟩⟩, List.forall_mem_nil _, List.forall_mem_nil _, GG_pl⟩ (by decide +kernel)
def e_jStr_length_v307 : en_T := ([(2, 0, 0, [5045])], some (0, 1, 1, []), true, 2, 0, 0, [], [], (0, [], [], [], []))
def n_jStr_length_v307_an : List an_T := []
def t_jStr_length_v307_ct : ct_L := [(22, 335, e_jStr_coder_v172), (1000003, 9, en_ro [(2, 0, 0, [5045])] (2, 0, 0, [5245])), (1000004, 0, en_ro [(2, 0, 0, [5245])] (0, 1, 1, []))]
set_option maxRecDepth 100000 in
theorem c_jStr_length_v307 {l : Launch} {D : va_G} {kA : Nat → ClassId} : ct_ok l D kA GG y_jStr_length z_jStr_length e_jStr_length_v307 := chk_all_ok (FT := []) (PT := []) (CT := t_jStr_length_v307_ct) (KT := []) (NT := []) (AN := n_jStr_length_v307_an) (OT := []) 0 200 (List.forall_mem_nil _) (by decide +kernel) ⟨List.forall_mem_nil _, List.forall_mem_nil _, List.forall_mem_cons.mpr ⟨cl_stringS (y := y_jStr_coder) (rs := ro_strs) rfl (by decide +kernel) rfl c_jStr_coder_v172 wm_678 wm_11 wm_675 wm_676 wm_677 ⟨by decide, by decide, by decide +kernel⟩ (by decide), List.forall_mem_cons.mpr ⟨cl_value (i := 45) wm_3969 rfl (by decide +kernel) (by decide +kernel) (by decide +kernel), List.forall_mem_cons.mpr ⟨cl_tlen (i := 45) (n := 1) rfl (by decide +kernel) (by decide +kernel) (by decide +kernel), List.forall_mem_nil _⟩⟩⟩, List.forall_mem_nil _, List.forall_mem_nil _, GG_pl⟩ (by decide +kernel)
def e_jLat_charAt_v144 : en_T := ([(2, 0, 0, [5204]), (0, 0, 38, [])], some (0, 0, 65535, []), true, 3, 0, 0, [], [], (0, [], [], [], []))
def n_jLat_charAt_v144_an : List an_T := []
def t_jLat_charAt_v144_ct : ct_L := [(12, 9, e_jStr_checkIndex_v145), (1000004, 0, en_ro [(2, 0, 0, [5204])] (0, 39, 39, [])), (1000005, 0, en_ro [(2, 0, 0, [5204]), (0, 0, 38, [])] (0, 32, 122, []))]
set_option maxRecDepth 100000 in
theorem c_jLat_charAt_v144 {l : Launch} {D : va_G} {kA : Nat → ClassId} : ct_ok l D kA GG y_jLat_charAt z_jLat_charAt e_jLat_charAt_v144 := chk_all_ok (FT := []) (PT := []) (CT := t_jLat_charAt_v144_ct) (KT := []) (NT := []) (AN := n_jLat_charAt_v144_an) (OT := []) 0 200 (List.forall_mem_nil _) (by decide +kernel) ⟨List.forall_mem_nil _, List.forall_mem_nil _, List.forall_mem_cons.mpr ⟨cl_static (y := y_jStr_checkIndex) c_jStr_checkIndex_v145 wm_694 wm_11 wm_692 wm_693 ⟨by decide, by decide, by decide +kernel⟩ (by decide), List.forall_mem_cons.mpr ⟨cl_tlen (i := 4) (n := 39) rfl (by decide +kernel) (by decide +kernel) (by decide +kernel), List.forall_mem_cons.mpr ⟨cl_tbyte (i := 4) (n := 39) rfl (by decide +kernel) (by decide +kernel) (by decide +kernel) (by decide +kernel), List.forall_mem_nil _⟩⟩⟩, List.forall_mem_nil _, List.forall_mem_nil _, GG_pl⟩ (by decide +kernel)
def e_jLat_charAt_v148 : en_T := ([(2, 0, 0, [5206]), (0, 0, 9, [])], some (0, 0, 65535, []), true, 3, 0, 0, [], [], (0, [], [], [], []))
def n_jLat_charAt_v148_an : List an_T := []
def t_jLat_charAt_v148_ct : ct_L := [(12, 9, e_jStr_checkIndex_v149), (1000004, 0, en_ro [(2, 0, 0, [5206])] (0, 10, 10, [])), (1000005, 0, en_ro [(2, 0, 0, [5206]), (0, 0, 9, [])] (0, 32, 111, []))]
set_option maxRecDepth 100000 in
theorem c_jLat_charAt_v148 {l : Launch} {D : va_G} {kA : Nat → ClassId} : ct_ok l D kA GG y_jLat_charAt z_jLat_charAt e_jLat_charAt_v148 := chk_all_ok (FT := []) (PT := []) (CT := t_jLat_charAt_v148_ct) (KT := []) (NT := []) (AN := n_jLat_charAt_v148_an) (OT := []) 0 200 (List.forall_mem_nil _) (by decide +kernel) ⟨List.forall_mem_nil _, List.forall_mem_nil _, List.forall_mem_cons.mpr ⟨cl_static (y := y_jStr_checkIndex) c_jStr_checkIndex_v149 wm_694 wm_11 wm_692 wm_693 ⟨by decide, by decide, by decide +kernel⟩ (by decide), List.forall_mem_cons.mpr ⟨cl_tlen (i := 6) (n := 10) rfl (by decide +kernel) (by decide +kernel) (by decide +kernel), List.forall_mem_cons.mpr ⟨cl_tbyte (i := 6) (n := 10) rfl (by decide +kernel) (by decide +kernel) (by decide +kernel) (by decide +kernel), List.forall_mem_nil _⟩⟩⟩, List.forall_mem_nil _, List.forall_mem_nil _, GG_pl⟩ (by decide +kernel)
def e_jLat_charAt_v152 : en_T := ([(2, 0, 0, [5207]), (0, 0, 43, [])], some (0, 0, 65535, []), true, 3, 0, 0, [], [], (0, [], [], [], []))
def n_jLat_charAt_v152_an : List an_T := []
def t_jLat_charAt_v152_ct : ct_L := [(12, 9, e_jStr_checkIndex_v153), (1000004, 0, en_ro [(2, 0, 0, [5207])] (0, 44, 44, [])), (1000005, 0, en_ro [(2, 0, 0, [5207]), (0, 0, 43, [])] (0, 32, 119, []))]
set_option maxRecDepth 100000 in
theorem c_jLat_charAt_v152 {l : Launch} {D : va_G} {kA : Nat → ClassId} : ct_ok l D kA GG y_jLat_charAt z_jLat_charAt e_jLat_charAt_v152 := chk_all_ok (FT := []) (PT := []) (CT := t_jLat_charAt_v152_ct) (KT := []) (NT := []) (AN := n_jLat_charAt_v152_an) (OT := []) 0 200 (List.forall_mem_nil _) (by decide +kernel) ⟨List.forall_mem_nil _, List.forall_mem_nil _, List.forall_mem_cons.mpr ⟨cl_static (y := y_jStr_checkIndex) c_jStr_checkIndex_v153 wm_694 wm_11 wm_692 wm_693 ⟨by decide, by decide, by decide +kernel⟩ (by decide), List.forall_mem_cons.mpr ⟨cl_tlen (i := 7) (n := 44) rfl (by decide +kernel) (by decide +kernel) (by decide +kernel), List.forall_mem_cons.mpr ⟨cl_tbyte (i := 7) (n := 44) rfl (by decide +kernel) (by decide +kernel) (by decide +kernel) (by decide +kernel), List.forall_mem_nil _⟩⟩⟩, List.forall_mem_nil _, List.forall_mem_nil _, GG_pl⟩ (by decide +kernel)
def e_jLat_charAt_v156 : en_T := ([(2, 0, 0, [5208]), (0, 0, 2, [])], some (0, 0, 65535, []), true, 3, 0, 0, [], [], (0, [], [], [], []))
def n_jLat_charAt_v156_an : List an_T := []
def t_jLat_charAt_v156_ct : ct_L := [(12, 9, e_jStr_checkIndex_v157), (1000004, 0, en_ro [(2, 0, 0, [5208])] (0, 3, 3, [])), (1000005, 0, en_ro [(2, 0, 0, [5208]), (0, 0, 2, [])] (0, 32, 105, []))]
set_option maxRecDepth 100000 in
theorem c_jLat_charAt_v156 {l : Launch} {D : va_G} {kA : Nat → ClassId} : ct_ok l D kA GG y_jLat_charAt z_jLat_charAt e_jLat_charAt_v156 := chk_all_ok (FT := []) (PT := []) (CT := t_jLat_charAt_v156_ct) (KT := []) (NT := []) (AN := n_jLat_charAt_v156_an) (OT := []) 0 200 (List.forall_mem_nil _) (by decide +kernel) ⟨List.forall_mem_nil _, List.forall_mem_nil _, List.forall_mem_cons.mpr ⟨cl_static (y := y_jStr_checkIndex) c_jStr_checkIndex_v157 wm_694 wm_11 wm_692 wm_693 ⟨by decide, by decide, by decide +kernel⟩ (by decide), List.forall_mem_cons.mpr ⟨cl_tlen (i := 8) (n := 3) rfl (by decide +kernel) (by decide +kernel) (by decide +kernel), List.forall_mem_cons.mpr ⟨cl_tbyte (i := 8) (n := 3) rfl (by decide +kernel) (by decide +kernel) (by decide +kernel) (by decide +kernel), List.forall_mem_nil _⟩⟩⟩, List.forall_mem_nil _, List.forall_mem_nil _, GG_pl⟩ (by decide +kernel)
def e_jLat_charAt_v160 : en_T := ([(2, 0, 0, [5209]), (0, 0, 3, [])], some (0, 0, 65535, []), true, 3, 0, 0, [], [], (0, [], [], [], []))
def n_jLat_charAt_v160_an : List an_T := []
def t_jLat_charAt_v160_ct : ct_L := [(12, 9, e_jStr_checkIndex_v161), (1000004, 0, en_ro [(2, 0, 0, [5209])] (0, 4, 4, [])), (1000005, 0, en_ro [(2, 0, 0, [5209]), (0, 0, 3, [])] (0, 32, 116, []))]
set_option maxRecDepth 100000 in
theorem c_jLat_charAt_v160 {l : Launch} {D : va_G} {kA : Nat → ClassId} : ct_ok l D kA GG y_jLat_charAt z_jLat_charAt e_jLat_charAt_v160 := chk_all_ok (FT := []) (PT := []) (CT := t_jLat_charAt_v160_ct) (KT := []) (NT := []) (AN := n_jLat_charAt_v160_an) (OT := []) 0 200 (List.forall_mem_nil _) (by decide +kernel) ⟨List.forall_mem_nil _, List.forall_mem_nil _, List.forall_mem_cons.mpr ⟨cl_static (y := y_jStr_checkIndex) c_jStr_checkIndex_v161 wm_694 wm_11 wm_692 wm_693 ⟨by decide, by decide, by decide +kernel⟩ (by decide), List.forall_mem_cons.mpr ⟨cl_tlen (i := 9) (n := 4) rfl (by decide +kernel) (by decide +kernel) (by decide +kernel), List.forall_mem_cons.mpr ⟨cl_tbyte (i := 9) (n := 4) rfl (by decide +kernel) (by decide +kernel) (by decide +kernel) (by decide +kernel), List.forall_mem_nil _⟩⟩⟩, List.forall_mem_nil _, List.forall_mem_nil _, GG_pl⟩ (by decide +kernel)
def e_jLat_charAt_v164 : en_T := ([(2, 0, 0, [5210]), (0, 0, 3, [])], some (0, 0, 65535, []), true, 3, 0, 0, [], [], (0, [], [], [], []))
def n_jLat_charAt_v164_an : List an_T := []
def t_jLat_charAt_v164_ct : ct_L := [(12, 9, e_jStr_checkIndex_v161), (1000004, 0, en_ro [(2, 0, 0, [5210])] (0, 4, 4, [])), (1000005, 0, en_ro [(2, 0, 0, [5210]), (0, 0, 3, [])] (0, 32, 110, []))]
set_option maxRecDepth 100000 in
theorem c_jLat_charAt_v164 {l : Launch} {D : va_G} {kA : Nat → ClassId} : ct_ok l D kA GG y_jLat_charAt z_jLat_charAt e_jLat_charAt_v164 := chk_all_ok (FT := []) (PT := []) (CT := t_jLat_charAt_v164_ct) (KT := []) (NT := []) (AN := n_jLat_charAt_v164_an) (OT := []) 0 200 (List.forall_mem_nil _) (by decide +kernel) ⟨List.forall_mem_nil _, List.forall_mem_nil _, List.forall_mem_cons.mpr ⟨cl_static (y := y_jStr_checkIndex) c_jStr_checkIndex_v161 wm_694 wm_11 wm_692 wm_693 ⟨by decide, by decide, by decide +kernel⟩ (by decide), List.forall_mem_cons.mpr ⟨cl_tlen (i := 10) (n := 4) rfl (by decide +kernel) (by decide +kernel) (by decide +kernel), List.forall_mem_cons.mpr ⟨cl_tbyte (i := 10) (n := 4) rfl (by decide +kernel) (by decide +kernel) (by decide +kernel) (by decide +kernel), List.forall_mem_nil _⟩⟩⟩, List.forall_mem_nil _, List.forall_mem_nil _, GG_pl⟩ (by decide +kernel)
def e_jLat_charAt_v166 : en_T := ([(2, 0, 0, [5211]), (0, 0, 2, [])], some (0, 0, 65535, []), true, 3, 0, 0, [], [], (0, [], [], [], []))
def n_jLat_charAt_v166_an : List an_T := []
def t_jLat_charAt_v166_ct : ct_L := [(12, 9, e_jStr_checkIndex_v157), (1000004, 0, en_ro [(2, 0, 0, [5211])] (0, 3, 3, [])), (1000005, 0, en_ro [(2, 0, 0, [5211]), (0, 0, 2, [])] (0, 32, 114, []))]
set_option maxRecDepth 100000 in
theorem c_jLat_charAt_v166 {l : Launch} {D : va_G} {kA : Nat → ClassId} : ct_ok l D kA GG y_jLat_charAt z_jLat_charAt e_jLat_charAt_v166 := chk_all_ok (FT := []) (PT := []) (CT := t_jLat_charAt_v166_ct) (KT := []) (NT := []) (AN := n_jLat_charAt_v166_an) (OT := []) 0 200 (List.forall_mem_nil _) (by decide +kernel) ⟨List.forall_mem_nil _, List.forall_mem_nil _, List.forall_mem_cons.mpr ⟨cl_static (y := y_jStr_checkIndex) c_jStr_checkIndex_v157 wm_694 wm_11 wm_692 wm_693 ⟨by decide, by decide, by decide +kernel⟩ (by decide), List.forall_mem_cons.mpr ⟨cl_tlen (i := 11) (n := 3) rfl (by decide +kernel) (by decide +kernel) (by decide +kernel), List.forall_mem_cons.mpr ⟨cl_tbyte (i := 11) (n := 3) rfl (by decide +kernel) (by decide +kernel) (by decide +kernel) (by decide +kernel), List.forall_mem_nil _⟩⟩⟩, List.forall_mem_nil _, List.forall_mem_nil _, GG_pl⟩ (by decide +kernel)
def e_jLat_charAt_v168 : en_T := ([(2, 0, 0, [5212]), (0, 0, 16, [])], some (0, 0, 65535, []), true, 3, 0, 0, [], [], (0, [], [], [], []))
def n_jLat_charAt_v168_an : List an_T := []
def t_jLat_charAt_v168_ct : ct_L := [(12, 9, e_jStr_checkIndex_v169), (1000004, 0, en_ro [(2, 0, 0, [5212])] (0, 17, 17, [])), (1000005, 0, en_ro [(2, 0, 0, [5212]), (0, 0, 16, [])] (0, 32, 119, []))]
set_option maxRecDepth 100000 in
theorem c_jLat_charAt_v168 {l : Launch} {D : va_G} {kA : Nat → ClassId} : ct_ok l D kA GG y_jLat_charAt z_jLat_charAt e_jLat_charAt_v168 := chk_all_ok (FT := []) (PT := []) (CT := t_jLat_charAt_v168_ct) (KT := []) (NT := []) (AN := n_jLat_charAt_v168_an) (OT := []) 0 200 (List.forall_mem_nil _) (by decide +kernel) ⟨List.forall_mem_nil _, List.forall_mem_nil _, List.forall_mem_cons.mpr ⟨cl_static (y := y_jStr_checkIndex) c_jStr_checkIndex_v169 wm_694 wm_11 wm_692 wm_693 ⟨by decide, by decide, by decide +kernel⟩ (by decide), List.forall_mem_cons.mpr ⟨cl_tlen (i := 12) (n := 17) rfl (by decide +kernel) (by decide +kernel) (by decide +kernel), List.forall_mem_cons.mpr ⟨cl_tbyte (i := 12) (n := 17) rfl (by decide +kernel) (by decide +kernel) (by decide +kernel) (by decide +kernel), List.forall_mem_nil _⟩⟩⟩, List.forall_mem_nil _, List.forall_mem_nil _, GG_pl⟩ (by decide +kernel)
def e_jLat_charAt_v174 : en_T := ([(2, 0, 0, [5200]), (0, 0, 3, [])], some (0, 0, 65535, []), true, 3, 0, 0, [], [], (0, [], [], [], []))
def n_jLat_charAt_v174_an : List an_T := []
def t_jLat_charAt_v174_ct : ct_L := [(12, 9, e_jStr_checkIndex_v161), (1000004, 0, en_ro [(2, 0, 0, [5200])] (0, 4, 4, [])), (1000005, 0, en_ro [(2, 0, 0, [5200]), (0, 0, 3, [])] (0, 100, 111, []))]
set_option maxRecDepth 100000 in
theorem c_jLat_charAt_v174 {l : Launch} {D : va_G} {kA : Nat → ClassId} : ct_ok l D kA GG y_jLat_charAt z_jLat_charAt e_jLat_charAt_v174 := chk_all_ok (FT := []) (PT := []) (CT := t_jLat_charAt_v174_ct) (KT := []) (NT := []) (AN := n_jLat_charAt_v174_an) (OT := []) 0 200 (List.forall_mem_nil _) (by decide +kernel) ⟨List.forall_mem_nil _, List.forall_mem_nil _, List.forall_mem_cons.mpr ⟨cl_static (y := y_jStr_checkIndex) c_jStr_checkIndex_v161 wm_694 wm_11 wm_692 wm_693 ⟨by decide, by decide, by decide +kernel⟩ (by decide), List.forall_mem_cons.mpr ⟨cl_tlen (i := 0) (n := 4) rfl (by decide +kernel) (by decide +kernel) (by decide +kernel), List.forall_mem_cons.mpr ⟨cl_tbyte (i := 0) (n := 4) rfl (by decide +kernel) (by decide +kernel) (by decide +kernel) (by decide +kernel), List.forall_mem_nil _⟩⟩⟩, List.forall_mem_nil _, List.forall_mem_nil _, GG_pl⟩ (by decide +kernel)
def e_jLat_charAt_v177 : en_T := ([(2, 0, 0, [5201]), (0, 0, 4, [])], some (0, 0, 65535, []), true, 3, 0, 0, [], [], (0, [], [], [], []))
def n_jLat_charAt_v177_an : List an_T := []
def t_jLat_charAt_v177_ct : ct_L := [(12, 9, e_jStr_checkIndex_v178), (1000004, 0, en_ro [(2, 0, 0, [5201])] (0, 5, 5, [])), (1000005, 0, en_ro [(2, 0, 0, [5201]), (0, 0, 4, [])] (0, 103, 117, []))]
set_option maxRecDepth 100000 in
theorem c_jLat_charAt_v177 {l : Launch} {D : va_G} {kA : Nat → ClassId} : ct_ok l D kA GG y_jLat_charAt z_jLat_charAt e_jLat_charAt_v177 := chk_all_ok (FT := []) (PT := []) (CT := t_jLat_charAt_v177_ct) (KT := []) (NT := []) (AN := n_jLat_charAt_v177_an) (OT := []) 0 200 (List.forall_mem_nil _) (by decide +kernel) ⟨List.forall_mem_nil _, List.forall_mem_nil _, List.forall_mem_cons.mpr ⟨cl_static (y := y_jStr_checkIndex) c_jStr_checkIndex_v178 wm_694 wm_11 wm_692 wm_693 ⟨by decide, by decide, by decide +kernel⟩ (by decide), List.forall_mem_cons.mpr ⟨cl_tlen (i := 1) (n := 5) rfl (by decide +kernel) (by decide +kernel) (by decide +kernel), List.forall_mem_cons.mpr ⟨cl_tbyte (i := 1) (n := 5) rfl (by decide +kernel) (by decide +kernel) (by decide +kernel) (by decide +kernel), List.forall_mem_nil _⟩⟩⟩, List.forall_mem_nil _, List.forall_mem_nil _, GG_pl⟩ (by decide +kernel)
def e_jLat_charAt_v182 : en_T := ([(2, 0, 0, [5202]), (0, 0, 3, [])], some (0, 0, 65535, []), true, 3, 0, 0, [], [], (0, [], [], [], []))
def n_jLat_charAt_v182_an : List an_T := []
def t_jLat_charAt_v182_ct : ct_L := [(12, 9, e_jStr_checkIndex_v161), (1000004, 0, en_ro [(2, 0, 0, [5202])] (0, 4, 4, [])), (1000005, 0, en_ro [(2, 0, 0, [5202]), (0, 0, 3, [])] (0, 101, 122, []))]
set_option maxRecDepth 100000 in
theorem c_jLat_charAt_v182 {l : Launch} {D : va_G} {kA : Nat → ClassId} : ct_ok l D kA GG y_jLat_charAt z_jLat_charAt e_jLat_charAt_v182 := chk_all_ok (FT := []) (PT := []) (CT := t_jLat_charAt_v182_ct) (KT := []) (NT := []) (AN := n_jLat_charAt_v182_an) (OT := []) 0 200 (List.forall_mem_nil _) (by decide +kernel) ⟨List.forall_mem_nil _, List.forall_mem_nil _, List.forall_mem_cons.mpr ⟨cl_static (y := y_jStr_checkIndex) c_jStr_checkIndex_v161 wm_694 wm_11 wm_692 wm_693 ⟨by decide, by decide, by decide +kernel⟩ (by decide), List.forall_mem_cons.mpr ⟨cl_tlen (i := 2) (n := 4) rfl (by decide +kernel) (by decide +kernel) (by decide +kernel), List.forall_mem_cons.mpr ⟨cl_tbyte (i := 2) (n := 4) rfl (by decide +kernel) (by decide +kernel) (by decide +kernel) (by decide +kernel), List.forall_mem_nil _⟩⟩⟩, List.forall_mem_nil _, List.forall_mem_nil _, GG_pl⟩ (by decide +kernel)
def e_jLat_charAt_v185 : en_T := ([(2, 0, 0, [5203]), (0, 0, 5, [])], some (0, 0, 65535, []), true, 3, 0, 0, [], [], (0, [], [], [], []))
def n_jLat_charAt_v185_an : List an_T := []
def t_jLat_charAt_v185_ct : ct_L := [(12, 9, e_jStr_checkIndex_v186), (1000004, 0, en_ro [(2, 0, 0, [5203])] (0, 6, 6, [])), (1000005, 0, en_ro [(2, 0, 0, [5203]), (0, 0, 5, [])] (0, 101, 119, []))]
set_option maxRecDepth 100000 in
theorem c_jLat_charAt_v185 {l : Launch} {D : va_G} {kA : Nat → ClassId} : ct_ok l D kA GG y_jLat_charAt z_jLat_charAt e_jLat_charAt_v185 := chk_all_ok (FT := []) (PT := []) (CT := t_jLat_charAt_v185_ct) (KT := []) (NT := []) (AN := n_jLat_charAt_v185_an) (OT := []) 0 200 (List.forall_mem_nil _) (by decide +kernel) ⟨List.forall_mem_nil _, List.forall_mem_nil _, List.forall_mem_cons.mpr ⟨cl_static (y := y_jStr_checkIndex) c_jStr_checkIndex_v186 wm_694 wm_11 wm_692 wm_693 ⟨by decide, by decide, by decide +kernel⟩ (by decide), List.forall_mem_cons.mpr ⟨cl_tlen (i := 3) (n := 6) rfl (by decide +kernel) (by decide +kernel) (by decide +kernel), List.forall_mem_cons.mpr ⟨cl_tbyte (i := 3) (n := 6) rfl (by decide +kernel) (by decide +kernel) (by decide +kernel) (by decide +kernel), List.forall_mem_nil _⟩⟩⟩, List.forall_mem_nil _, List.forall_mem_nil _, GG_pl⟩ (by decide +kernel)
def e_jLat_charAt_v190 : en_T := ([(2, 0, 0, [5213]), (0, 0, 4, [])], some (0, 0, 65535, []), true, 3, 0, 0, [], [], (0, [], [], [], []))
def n_jLat_charAt_v190_an : List an_T := []
def t_jLat_charAt_v190_ct : ct_L := [(12, 9, e_jStr_checkIndex_v178), (1000004, 0, en_ro [(2, 0, 0, [5213])] (0, 5, 5, [])), (1000005, 0, en_ro [(2, 0, 0, [5213]), (0, 0, 4, [])] (0, 32, 111, []))]
set_option maxRecDepth 100000 in
theorem c_jLat_charAt_v190 {l : Launch} {D : va_G} {kA : Nat → ClassId} : ct_ok l D kA GG y_jLat_charAt z_jLat_charAt e_jLat_charAt_v190 := chk_all_ok (FT := []) (PT := []) (CT := t_jLat_charAt_v190_ct) (KT := []) (NT := []) (AN := n_jLat_charAt_v190_an) (OT := []) 0 200 (List.forall_mem_nil _) (by decide +kernel) ⟨List.forall_mem_nil _, List.forall_mem_nil _, List.forall_mem_cons.mpr ⟨cl_static (y := y_jStr_checkIndex) c_jStr_checkIndex_v178 wm_694 wm_11 wm_692 wm_693 ⟨by decide, by decide, by decide +kernel⟩ (by decide), List.forall_mem_cons.mpr ⟨cl_tlen (i := 13) (n := 5) rfl (by decide +kernel) (by decide +kernel) (by decide +kernel), List.forall_mem_cons.mpr ⟨cl_tbyte (i := 13) (n := 5) rfl (by decide +kernel) (by decide +kernel) (by decide +kernel) (by decide +kernel), List.forall_mem_nil _⟩⟩⟩, List.forall_mem_nil _, List.forall_mem_nil _, GG_pl⟩ (by decide +kernel)
def e_jLat_charAt_v193 : en_T := ([(2, 0, 0, [5214]), (0, 0, 6, [])], some (0, 0, 65535, []), true, 3, 0, 0, [], [], (0, [], [], [], []))
def n_jLat_charAt_v193_an : List an_T := []
def t_jLat_charAt_v193_ct : ct_L := [(12, 9, e_jStr_checkIndex_v194), (1000004, 0, en_ro [(2, 0, 0, [5214])] (0, 7, 7, [])), (1000005, 0, en_ro [(2, 0, 0, [5214]), (0, 0, 6, [])] (0, 32, 122, []))]
set_option maxRecDepth 100000 in
theorem c_jLat_charAt_v193 {l : Launch} {D : va_G} {kA : Nat → ClassId} : ct_ok l D kA GG y_jLat_charAt z_jLat_charAt e_jLat_charAt_v193 := chk_all_ok (FT := []) (PT := []) (CT := t_jLat_charAt_v193_ct) (KT := []) (NT := []) (AN := n_jLat_charAt_v193_an) (OT := []) 0 200 (List.forall_mem_nil _) (by decide +kernel) ⟨List.forall_mem_nil _, List.forall_mem_nil _, List.forall_mem_cons.mpr ⟨cl_static (y := y_jStr_checkIndex) c_jStr_checkIndex_v194 wm_694 wm_11 wm_692 wm_693 ⟨by decide, by decide, by decide +kernel⟩ (by decide), List.forall_mem_cons.mpr ⟨cl_tlen (i := 14) (n := 7) rfl (by decide +kernel) (by decide +kernel) (by decide +kernel), List.forall_mem_cons.mpr ⟨cl_tbyte (i := 14) (n := 7) rfl (by decide +kernel) (by decide +kernel) (by decide +kernel) (by decide +kernel), List.forall_mem_nil _⟩⟩⟩, List.forall_mem_nil _, List.forall_mem_nil _, GG_pl⟩ (by decide +kernel)
def e_jLat_charAt_v198 : en_T := ([(2, 0, 0, [5215]), (0, 0, 1, [])], some (0, 0, 65535, []), true, 3, 0, 0, [], [], (0, [], [], [], []))
def n_jLat_charAt_v198_an : List an_T := []
def t_jLat_charAt_v198_ct : ct_L := [(12, 9, e_jStr_checkIndex_v199), (1000004, 0, en_ro [(2, 0, 0, [5215])] (0, 2, 2, [])), (1000005, 0, en_ro [(2, 0, 0, [5215]), (0, 0, 1, [])] (0, 10, 59, []))]
set_option maxRecDepth 100000 in
theorem c_jLat_charAt_v198 {l : Launch} {D : va_G} {kA : Nat → ClassId} : ct_ok l D kA GG y_jLat_charAt z_jLat_charAt e_jLat_charAt_v198 := chk_all_ok (FT := []) (PT := []) (CT := t_jLat_charAt_v198_ct) (KT := []) (NT := []) (AN := n_jLat_charAt_v198_an) (OT := []) 0 200 (List.forall_mem_nil _) (by decide +kernel) ⟨List.forall_mem_nil _, List.forall_mem_nil _, List.forall_mem_cons.mpr ⟨cl_static (y := y_jStr_checkIndex) c_jStr_checkIndex_v199 wm_694 wm_11 wm_692 wm_693 ⟨by decide, by decide, by decide +kernel⟩ (by decide), List.forall_mem_cons.mpr ⟨cl_tlen (i := 15) (n := 2) rfl (by decide +kernel) (by decide +kernel) (by decide +kernel), List.forall_mem_cons.mpr ⟨cl_tbyte (i := 15) (n := 2) rfl (by decide +kernel) (by decide +kernel) (by decide +kernel) (by decide +kernel), List.forall_mem_nil _⟩⟩⟩, List.forall_mem_nil _, List.forall_mem_nil _, GG_pl⟩ (by decide +kernel)
def e_jLat_charAt_v203 : en_T := ([(2, 0, 0, [5216]), (0, 0, 5, [])], some (0, 0, 65535, []), true, 3, 0, 0, [], [], (0, [], [], [], []))
def n_jLat_charAt_v203_an : List an_T := []
def t_jLat_charAt_v203_ct : ct_L := [(12, 9, e_jStr_checkIndex_v186), (1000004, 0, en_ro [(2, 0, 0, [5216])] (0, 6, 6, [])), (1000005, 0, en_ro [(2, 0, 0, [5216]), (0, 0, 5, [])] (0, 32, 117, []))]
set_option maxRecDepth 100000 in
theorem c_jLat_charAt_v203 {l : Launch} {D : va_G} {kA : Nat → ClassId} : ct_ok l D kA GG y_jLat_charAt z_jLat_charAt e_jLat_charAt_v203 := chk_all_ok (FT := []) (PT := []) (CT := t_jLat_charAt_v203_ct) (KT := []) (NT := []) (AN := n_jLat_charAt_v203_an) (OT := []) 0 200 (List.forall_mem_nil _) (by decide +kernel) ⟨List.forall_mem_nil _, List.forall_mem_nil _, List.forall_mem_cons.mpr ⟨cl_static (y := y_jStr_checkIndex) c_jStr_checkIndex_v186 wm_694 wm_11 wm_692 wm_693 ⟨by decide, by decide, by decide +kernel⟩ (by decide), List.forall_mem_cons.mpr ⟨cl_tlen (i := 16) (n := 6) rfl (by decide +kernel) (by decide +kernel) (by decide +kernel), List.forall_mem_cons.mpr ⟨cl_tbyte (i := 16) (n := 6) rfl (by decide +kernel) (by decide +kernel) (by decide +kernel) (by decide +kernel), List.forall_mem_nil _⟩⟩⟩, List.forall_mem_nil _, List.forall_mem_nil _, GG_pl⟩ (by decide +kernel)
def e_jLat_charAt_v206 : en_T := ([(2, 0, 0, [5217]), (0, 0, 2, [])], some (0, 0, 65535, []), true, 3, 0, 0, [], [], (0, [], [], [], []))
def n_jLat_charAt_v206_an : List an_T := []
def t_jLat_charAt_v206_ct : ct_L := [(12, 9, e_jStr_checkIndex_v157), (1000004, 0, en_ro [(2, 0, 0, [5217])] (0, 3, 3, [])), (1000005, 0, en_ro [(2, 0, 0, [5217]), (0, 0, 2, [])] (0, 10, 123, []))]
set_option maxRecDepth 100000 in
theorem c_jLat_charAt_v206 {l : Launch} {D : va_G} {kA : Nat → ClassId} : ct_ok l D kA GG y_jLat_charAt z_jLat_charAt e_jLat_charAt_v206 := chk_all_ok (FT := []) (PT := []) (CT := t_jLat_charAt_v206_ct) (KT := []) (NT := []) (AN := n_jLat_charAt_v206_an) (OT := []) 0 200 (List.forall_mem_nil _) (by decide +kernel) ⟨List.forall_mem_nil _, List.forall_mem_nil _, List.forall_mem_cons.mpr ⟨cl_static (y := y_jStr_checkIndex) c_jStr_checkIndex_v157 wm_694 wm_11 wm_692 wm_693 ⟨by decide, by decide, by decide +kernel⟩ (by decide), List.forall_mem_cons.mpr ⟨cl_tlen (i := 17) (n := 3) rfl (by decide +kernel) (by decide +kernel) (by decide +kernel), List.forall_mem_cons.mpr ⟨cl_tbyte (i := 17) (n := 3) rfl (by decide +kernel) (by decide +kernel) (by decide +kernel) (by decide +kernel), List.forall_mem_nil _⟩⟩⟩, List.forall_mem_nil _, List.forall_mem_nil _, GG_pl⟩ (by decide +kernel)
def e_jLat_charAt_v209 : en_T := ([(2, 0, 0, [5218]), (0, 0, 1, [])], some (0, 0, 65535, []), true, 3, 0, 0, [], [], (0, [], [], [], []))
def n_jLat_charAt_v209_an : List an_T := []
def t_jLat_charAt_v209_ct : ct_L := [(12, 9, e_jStr_checkIndex_v199), (1000004, 0, en_ro [(2, 0, 0, [5218])] (0, 2, 2, [])), (1000005, 0, en_ro [(2, 0, 0, [5218]), (0, 0, 1, [])] (0, 10, 125, []))]
set_option maxRecDepth 100000 in
theorem c_jLat_charAt_v209 {l : Launch} {D : va_G} {kA : Nat → ClassId} : ct_ok l D kA GG y_jLat_charAt z_jLat_charAt e_jLat_charAt_v209 := chk_all_ok (FT := []) (PT := []) (CT := t_jLat_charAt_v209_ct) (KT := []) (NT := []) (AN := n_jLat_charAt_v209_an) (OT := []) 0 200 (List.forall_mem_nil _) (by decide +kernel) ⟨List.forall_mem_nil _, List.forall_mem_nil _, List.forall_mem_cons.mpr ⟨cl_static (y := y_jStr_checkIndex) c_jStr_checkIndex_v199 wm_694 wm_11 wm_692 wm_693 ⟨by decide, by decide, by decide +kernel⟩ (by decide), List.forall_mem_cons.mpr ⟨cl_tlen (i := 18) (n := 2) rfl (by decide +kernel) (by decide +kernel) (by decide +kernel), List.forall_mem_cons.mpr ⟨cl_tbyte (i := 18) (n := 2) rfl (by decide +kernel) (by decide +kernel) (by decide +kernel) (by decide +kernel), List.forall_mem_nil _⟩⟩⟩, List.forall_mem_nil _, List.forall_mem_nil _, GG_pl⟩ (by decide +kernel)
def e_jLat_charAt_v212 : en_T := ([(2, 0, 0, [5219]), (0, 0, 2, [])], some (0, 0, 65535, []), true, 3, 0, 0, [], [], (0, [], [], [], []))
def n_jLat_charAt_v212_an : List an_T := []
def t_jLat_charAt_v212_ct : ct_L := [(12, 9, e_jStr_checkIndex_v157), (1000004, 0, en_ro [(2, 0, 0, [5219])] (0, 3, 3, [])), (1000005, 0, en_ro [(2, 0, 0, [5219]), (0, 0, 2, [])] (0, 32, 62, []))]
set_option maxRecDepth 100000 in
theorem c_jLat_charAt_v212 {l : Launch} {D : va_G} {kA : Nat → ClassId} : ct_ok l D kA GG y_jLat_charAt z_jLat_charAt e_jLat_charAt_v212 := chk_all_ok (FT := []) (PT := []) (CT := t_jLat_charAt_v212_ct) (KT := []) (NT := []) (AN := n_jLat_charAt_v212_an) (OT := []) 0 200 (List.forall_mem_nil _) (by decide +kernel) ⟨List.forall_mem_nil _, List.forall_mem_nil _, List.forall_mem_cons.mpr ⟨cl_static (y := y_jStr_checkIndex) c_jStr_checkIndex_v157 wm_694 wm_11 wm_692 wm_693 ⟨by decide, by decide, by decide +kernel⟩ (by decide), List.forall_mem_cons.mpr ⟨cl_tlen (i := 19) (n := 3) rfl (by decide +kernel) (by decide +kernel) (by decide +kernel), List.forall_mem_cons.mpr ⟨cl_tbyte (i := 19) (n := 3) rfl (by decide +kernel) (by decide +kernel) (by decide +kernel) (by decide +kernel), List.forall_mem_nil _⟩⟩⟩, List.forall_mem_nil _, List.forall_mem_nil _, GG_pl⟩ (by decide +kernel)
def e_jLat_charAt_v215 : en_T := ([(2, 0, 0, [5220]), (0, 0, 2, [])], some (0, 0, 65535, []), true, 3, 0, 0, [], [], (0, [], [], [], []))
def n_jLat_charAt_v215_an : List an_T := []
def t_jLat_charAt_v215_ct : ct_L := [(12, 9, e_jStr_checkIndex_v157), (1000004, 0, en_ro [(2, 0, 0, [5220])] (0, 3, 3, [])), (1000005, 0, en_ro [(2, 0, 0, [5220]), (0, 0, 2, [])] (0, 32, 45, []))]
set_option maxRecDepth 100000 in
theorem c_jLat_charAt_v215 {l : Launch} {D : va_G} {kA : Nat → ClassId} : ct_ok l D kA GG y_jLat_charAt z_jLat_charAt e_jLat_charAt_v215 := chk_all_ok (FT := []) (PT := []) (CT := t_jLat_charAt_v215_ct) (KT := []) (NT := []) (AN := n_jLat_charAt_v215_an) (OT := []) 0 200 (List.forall_mem_nil _) (by decide +kernel) ⟨List.forall_mem_nil _, List.forall_mem_nil _, List.forall_mem_cons.mpr ⟨cl_static (y := y_jStr_checkIndex) c_jStr_checkIndex_v157 wm_694 wm_11 wm_692 wm_693 ⟨by decide, by decide, by decide +kernel⟩ (by decide), List.forall_mem_cons.mpr ⟨cl_tlen (i := 20) (n := 3) rfl (by decide +kernel) (by decide +kernel) (by decide +kernel), List.forall_mem_cons.mpr ⟨cl_tbyte (i := 20) (n := 3) rfl (by decide +kernel) (by decide +kernel) (by decide +kernel) (by decide +kernel), List.forall_mem_nil _⟩⟩⟩, List.forall_mem_nil _, List.forall_mem_nil _, GG_pl⟩ (by decide +kernel)
def e_jLat_charAt_v218 : en_T := ([(2, 0, 0, [5221]), (0, 0, 8, [])], some (0, 0, 65535, []), true, 3, 0, 0, [], [], (0, [], [], [], []))
def n_jLat_charAt_v218_an : List an_T := []
def t_jLat_charAt_v218_ct : ct_L := [(12, 9, e_jStr_checkIndex_v219), (1000004, 0, en_ro [(2, 0, 0, [5221])] (0, 9, 9, [])), (1000005, 0, en_ro [(2, 0, 0, [5221]), (0, 0, 8, [])] (0, 32, 119, []))]
set_option maxRecDepth 100000 in
theorem c_jLat_charAt_v218 {l : Launch} {D : va_G} {kA : Nat → ClassId} : ct_ok l D kA GG y_jLat_charAt z_jLat_charAt e_jLat_charAt_v218 := chk_all_ok (FT := []) (PT := []) (CT := t_jLat_charAt_v218_ct) (KT := []) (NT := []) (AN := n_jLat_charAt_v218_an) (OT := []) 0 200 (List.forall_mem_nil _) (by decide +kernel) ⟨List.forall_mem_nil _, List.forall_mem_nil _, List.forall_mem_cons.mpr ⟨cl_static (y := y_jStr_checkIndex) c_jStr_checkIndex_v219 wm_694 wm_11 wm_692 wm_693 ⟨by decide, by decide, by decide +kernel⟩ (by decide), List.forall_mem_cons.mpr ⟨cl_tlen (i := 21) (n := 9) rfl (by decide +kernel) (by decide +kernel) (by decide +kernel), List.forall_mem_cons.mpr ⟨cl_tbyte (i := 21) (n := 9) rfl (by decide +kernel) (by decide +kernel) (by decide +kernel) (by decide +kernel), List.forall_mem_nil _⟩⟩⟩, List.forall_mem_nil _, List.forall_mem_nil _, GG_pl⟩ (by decide +kernel)
def e_jStr_indexOf2_v222 : en_T := ([(2, 0, 0, [5005]), (0, 0, 65535, []), (0, 0, 0, [])], some (0, -1, 13, []), true, 3, 0, 0, [], [], (0, [], [], [], []))
def n_jStr_indexOf2_v222_an : List an_T := []
def t_jStr_indexOf2_v222_ct : ct_L := [(7, 492, e_jStr_isLatin1_v143), (46, 505, e_jStr_length_v223), (54, 637, e_jLat_indexOf_v224), (1000003, 9, en_ro [(2, 0, 0, [5005])] (2, 0, 0, [5205]))]
set_option maxRecDepth 100000 in
theorem c_jStr_indexOf2_v222 {l : Launch} {D : va_G} {kA : Nat → ClassId} : ct_ok l D kA GG y_jStr_indexOf2 z_jStr_indexOf2 e_jStr_indexOf2_v222 := chk_all_ok (FT := []) (PT := []) (CT := t_jStr_indexOf2_v222_ct) (KT := []) (NT := []) (AN := n_jStr_indexOf2_v222_an) (OT := []) 0 200 (List.forall_mem_nil _) (by decide +kernel) ⟨List.forall_mem_nil _, List.forall_mem_nil _, List.forall_mem_cons.mpr ⟨cl_stringS (y := y_jStr_isLatin1) (rs := ro_strs) rfl (by decide +kernel) rfl c_jStr_isLatin1_v143 wm_688 wm_11 wm_685 wm_686 wm_687 ⟨by decide, by decide, by decide +kernel⟩ (by decide), List.forall_mem_cons.mpr ⟨cl_string (y := y_jStr_length) (i := 5) rfl rfl (by decide +kernel) rfl c_jStr_length_v223 wm_674 wm_11 wm_2174 wm_672 wm_673 ⟨by decide, by decide, by decide +kernel⟩ (by decide), List.forall_mem_cons.mpr ⟨cl_static (y := y_jLat_indexOf) c_jLat_indexOf_v224 wm_2177 wm_12 wm_2175 wm_2176 ⟨by decide, by decide, by decide +kernel⟩ (by decide), List.forall_mem_cons.mpr ⟨cl_value (i := 5) wm_3969 rfl (by decide +kernel) (by decide +kernel) (by decide +kernel), List.forall_mem_nil _⟩⟩⟩⟩, List.forall_mem_nil _, List.forall_mem_nil _, GG_pl⟩ (by decide +kernel)
def e_jLat_charAt_v238 : en_T := ([(2, 0, 0, [5222]), (0, 0, 3, [])], some (0, 0, 65535, []), true, 3, 0, 0, [], [], (0, [], [], [], []))
def n_jLat_charAt_v238_an : List an_T := []
def t_jLat_charAt_v238_ct : ct_L := [(12, 9, e_jStr_checkIndex_v161), (1000004, 0, en_ro [(2, 0, 0, [5222])] (0, 4, 4, [])), (1000005, 0, en_ro [(2, 0, 0, [5222]), (0, 0, 3, [])] (0, 100, 103, []))]
set_option maxRecDepth 100000 in
theorem c_jLat_charAt_v238 {l : Launch} {D : va_G} {kA : Nat → ClassId} : ct_ok l D kA GG y_jLat_charAt z_jLat_charAt e_jLat_charAt_v238 := chk_all_ok (FT := []) (PT := []) (CT := t_jLat_charAt_v238_ct) (KT := []) (NT := []) (AN := n_jLat_charAt_v238_an) (OT := []) 0 200 (List.forall_mem_nil _) (by decide +kernel) ⟨List.forall_mem_nil _, List.forall_mem_nil _, List.forall_mem_cons.mpr ⟨cl_static (y := y_jStr_checkIndex) c_jStr_checkIndex_v161 wm_694 wm_11 wm_692 wm_693 ⟨by decide, by decide, by decide +kernel⟩ (by decide), List.forall_mem_cons.mpr ⟨cl_tlen (i := 22) (n := 4) rfl (by decide +kernel) (by decide +kernel) (by decide +kernel), List.forall_mem_cons.mpr ⟨cl_tbyte (i := 22) (n := 4) rfl (by decide +kernel) (by decide +kernel) (by decide +kernel) (by decide +kernel), List.forall_mem_nil _⟩⟩⟩, List.forall_mem_nil _, List.forall_mem_nil _, GG_pl⟩ (by decide +kernel)
def e_jLat_charAt_v241 : en_T := ([(2, 0, 0, [5223]), (0, 0, 1, [])], some (0, 0, 65535, []), true, 3, 0, 0, [], [], (0, [], [], [], []))
def n_jLat_charAt_v241_an : List an_T := []
def t_jLat_charAt_v241_ct : ct_L := [(12, 9, e_jStr_checkIndex_v199), (1000004, 0, en_ro [(2, 0, 0, [5223])] (0, 2, 2, [])), (1000005, 0, en_ro [(2, 0, 0, [5223]), (0, 0, 1, [])] (0, 102, 105, []))]
set_option maxRecDepth 100000 in
theorem c_jLat_charAt_v241 {l : Launch} {D : va_G} {kA : Nat → ClassId} : ct_ok l D kA GG y_jLat_charAt z_jLat_charAt e_jLat_charAt_v241 := chk_all_ok (FT := []) (PT := []) (CT := t_jLat_charAt_v241_ct) (KT := []) (NT := []) (AN := n_jLat_charAt_v241_an) (OT := []) 0 200 (List.forall_mem_nil _) (by decide +kernel) ⟨List.forall_mem_nil _, List.forall_mem_nil _, List.forall_mem_cons.mpr ⟨cl_static (y := y_jStr_checkIndex) c_jStr_checkIndex_v199 wm_694 wm_11 wm_692 wm_693 ⟨by decide, by decide, by decide +kernel⟩ (by decide), List.forall_mem_cons.mpr ⟨cl_tlen (i := 23) (n := 2) rfl (by decide +kernel) (by decide +kernel) (by decide +kernel), List.forall_mem_cons.mpr ⟨cl_tbyte (i := 23) (n := 2) rfl (by decide +kernel) (by decide +kernel) (by decide +kernel) (by decide +kernel), List.forall_mem_nil _⟩⟩⟩, List.forall_mem_nil _, List.forall_mem_nil _, GG_pl⟩ (by decide +kernel)
def e_jLat_charAt_v244 : en_T := ([(2, 0, 0, [5224]), (0, 0, 2, [])], some (0, 0, 65535, []), true, 3, 0, 0, [], [], (0, [], [], [], []))
def n_jLat_charAt_v244_an : List an_T := []
def t_jLat_charAt_v244_ct : ct_L := [(12, 9, e_jStr_checkIndex_v157), (1000004, 0, en_ro [(2, 0, 0, [5224])] (0, 3, 3, [])), (1000005, 0, en_ro [(2, 0, 0, [5224]), (0, 0, 2, [])] (0, 110, 116, []))]
set_option maxRecDepth 100000 in
theorem c_jLat_charAt_v244 {l : Launch} {D : va_G} {kA : Nat → ClassId} : ct_ok l D kA GG y_jLat_charAt z_jLat_charAt e_jLat_charAt_v244 := chk_all_ok (FT := []) (PT := []) (CT := t_jLat_charAt_v244_ct) (KT := []) (NT := []) (AN := n_jLat_charAt_v244_an) (OT := []) 0 200 (List.forall_mem_nil _) (by decide +kernel) ⟨List.forall_mem_nil _, List.forall_mem_nil _, List.forall_mem_cons.mpr ⟨cl_static (y := y_jStr_checkIndex) c_jStr_checkIndex_v157 wm_694 wm_11 wm_692 wm_693 ⟨by decide, by decide, by decide +kernel⟩ (by decide), List.forall_mem_cons.mpr ⟨cl_tlen (i := 24) (n := 3) rfl (by decide +kernel) (by decide +kernel) (by decide +kernel), List.forall_mem_cons.mpr ⟨cl_tbyte (i := 24) (n := 3) rfl (by decide +kernel) (by decide +kernel) (by decide +kernel) (by decide +kernel), List.forall_mem_nil _⟩⟩⟩, List.forall_mem_nil _, List.forall_mem_nil _, GG_pl⟩ (by decide +kernel)
def e_jLat_charAt_v247 : en_T := ([(2, 0, 0, [5225]), (0, 0, 2, [])], some (0, 0, 65535, []), true, 3, 0, 0, [], [], (0, [], [], [], []))
def n_jLat_charAt_v247_an : List an_T := []
def t_jLat_charAt_v247_ct : ct_L := [(12, 9, e_jStr_checkIndex_v157), (1000004, 0, en_ro [(2, 0, 0, [5225])] (0, 3, 3, [])), (1000005, 0, en_ro [(2, 0, 0, [5225]), (0, 0, 2, [])] (0, 100, 103, []))]
set_option maxRecDepth 100000 in
theorem c_jLat_charAt_v247 {l : Launch} {D : va_G} {kA : Nat → ClassId} : ct_ok l D kA GG y_jLat_charAt z_jLat_charAt e_jLat_charAt_v247 := chk_all_ok (FT := []) (PT := []) (CT := t_jLat_charAt_v247_ct) (KT := []) (NT := []) (AN := n_jLat_charAt_v247_an) (OT := []) 0 200 (List.forall_mem_nil _) (by decide +kernel) ⟨List.forall_mem_nil _, List.forall_mem_nil _, List.forall_mem_cons.mpr ⟨cl_static (y := y_jStr_checkIndex) c_jStr_checkIndex_v157 wm_694 wm_11 wm_692 wm_693 ⟨by decide, by decide, by decide +kernel⟩ (by decide), List.forall_mem_cons.mpr ⟨cl_tlen (i := 25) (n := 3) rfl (by decide +kernel) (by decide +kernel) (by decide +kernel), List.forall_mem_cons.mpr ⟨cl_tbyte (i := 25) (n := 3) rfl (by decide +kernel) (by decide +kernel) (by decide +kernel) (by decide +kernel), List.forall_mem_nil _⟩⟩⟩, List.forall_mem_nil _, List.forall_mem_nil _, GG_pl⟩ (by decide +kernel)
def e_jLat_charAt_v250 : en_T := ([(2, 0, 0, [5226]), (0, 0, 1, [])], some (0, 0, 65535, []), true, 3, 0, 0, [], [], (0, [], [], [], []))
def n_jLat_charAt_v250_an : List an_T := []
def t_jLat_charAt_v250_ct : ct_L := [(12, 9, e_jStr_checkIndex_v199), (1000004, 0, en_ro [(2, 0, 0, [5226])] (0, 2, 2, [])), (1000005, 0, en_ro [(2, 0, 0, [5226]), (0, 0, 1, [])] (0, 105, 110, []))]
set_option maxRecDepth 100000 in
theorem c_jLat_charAt_v250 {l : Launch} {D : va_G} {kA : Nat → ClassId} : ct_ok l D kA GG y_jLat_charAt z_jLat_charAt e_jLat_charAt_v250 := chk_all_ok (FT := []) (PT := []) (CT := t_jLat_charAt_v250_ct) (KT := []) (NT := []) (AN := n_jLat_charAt_v250_an) (OT := []) 0 200 (List.forall_mem_nil _) (by decide +kernel) ⟨List.forall_mem_nil _, List.forall_mem_nil _, List.forall_mem_cons.mpr ⟨cl_static (y := y_jStr_checkIndex) c_jStr_checkIndex_v199 wm_694 wm_11 wm_692 wm_693 ⟨by decide, by decide, by decide +kernel⟩ (by decide), List.forall_mem_cons.mpr ⟨cl_tlen (i := 26) (n := 2) rfl (by decide +kernel) (by decide +kernel) (by decide +kernel), List.forall_mem_cons.mpr ⟨cl_tbyte (i := 26) (n := 2) rfl (by decide +kernel) (by decide +kernel) (by decide +kernel) (by decide +kernel), List.forall_mem_nil _⟩⟩⟩, List.forall_mem_nil _, List.forall_mem_nil _, GG_pl⟩ (by decide +kernel)
def e_jLat_charAt_v253 : en_T := ([(2, 0, 0, [5227]), (0, 0, 2, [])], some (0, 0, 65535, []), true, 3, 0, 0, [], [], (0, [], [], [], []))
def n_jLat_charAt_v253_an : List an_T := []
def t_jLat_charAt_v253_ct : ct_L := [(12, 9, e_jStr_checkIndex_v157), (1000004, 0, en_ro [(2, 0, 0, [5227])] (0, 3, 3, [])), (1000005, 0, en_ro [(2, 0, 0, [5227]), (0, 0, 2, [])] (0, 111, 117, []))]
set_option maxRecDepth 100000 in
theorem c_jLat_charAt_v253 {l : Launch} {D : va_G} {kA : Nat → ClassId} : ct_ok l D kA GG y_jLat_charAt z_jLat_charAt e_jLat_charAt_v253 := chk_all_ok (FT := []) (PT := []) (CT := t_jLat_charAt_v253_ct) (KT := []) (NT := []) (AN := n_jLat_charAt_v253_an) (OT := []) 0 200 (List.forall_mem_nil _) (by decide +kernel) ⟨List.forall_mem_nil _, List.forall_mem_nil _, List.forall_mem_cons.mpr ⟨cl_static (y := y_jStr_checkIndex) c_jStr_checkIndex_v157 wm_694 wm_11 wm_692 wm_693 ⟨by decide, by decide, by decide +kernel⟩ (by decide), List.forall_mem_cons.mpr ⟨cl_tlen (i := 27) (n := 3) rfl (by decide +kernel) (by decide +kernel) (by decide +kernel), List.forall_mem_cons.mpr ⟨cl_tbyte (i := 27) (n := 3) rfl (by decide +kernel) (by decide +kernel) (by decide +kernel) (by decide +kernel), List.forall_mem_nil _⟩⟩⟩, List.forall_mem_nil _, List.forall_mem_nil _, GG_pl⟩ (by decide +kernel)
def e_jLat_charAt_v256 : en_T := ([(2, 0, 0, [5228]), (0, 0, 2, [])], some (0, 0, 65535, []), true, 3, 0, 0, [], [], (0, [], [], [], []))
def n_jLat_charAt_v256_an : List an_T := []
def t_jLat_charAt_v256_ct : ct_L := [(12, 9, e_jStr_checkIndex_v157), (1000004, 0, en_ro [(2, 0, 0, [5228])] (0, 3, 3, [])), (1000005, 0, en_ro [(2, 0, 0, [5228]), (0, 0, 2, [])] (0, 97, 114, []))]
set_option maxRecDepth 100000 in
theorem c_jLat_charAt_v256 {l : Launch} {D : va_G} {kA : Nat → ClassId} : ct_ok l D kA GG y_jLat_charAt z_jLat_charAt e_jLat_charAt_v256 := chk_all_ok (FT := []) (PT := []) (CT := t_jLat_charAt_v256_ct) (KT := []) (NT := []) (AN := n_jLat_charAt_v256_an) (OT := []) 0 200 (List.forall_mem_nil _) (by decide +kernel) ⟨List.forall_mem_nil _, List.forall_mem_nil _, List.forall_mem_cons.mpr ⟨cl_static (y := y_jStr_checkIndex) c_jStr_checkIndex_v157 wm_694 wm_11 wm_692 wm_693 ⟨by decide, by decide, by decide +kernel⟩ (by decide), List.forall_mem_cons.mpr ⟨cl_tlen (i := 28) (n := 3) rfl (by decide +kernel) (by decide +kernel) (by decide +kernel), List.forall_mem_cons.mpr ⟨cl_tbyte (i := 28) (n := 3) rfl (by decide +kernel) (by decide +kernel) (by decide +kernel) (by decide +kernel), List.forall_mem_nil _⟩⟩⟩, List.forall_mem_nil _, List.forall_mem_nil _, GG_pl⟩ (by decide +kernel)
def e_jLat_charAt_v259 : en_T := ([(2, 0, 0, [5229]), (0, 0, 3, [])], some (0, 0, 65535, []), true, 3, 0, 0, [], [], (0, [], [], [], []))
def n_jLat_charAt_v259_an : List an_T := []
def t_jLat_charAt_v259_ct : ct_L := [(12, 9, e_jStr_checkIndex_v161), (1000004, 0, en_ro [(2, 0, 0, [5229])] (0, 4, 4, [])), (1000005, 0, en_ro [(2, 0, 0, [5229]), (0, 0, 3, [])] (0, 99, 114, []))]
set_option maxRecDepth 100000 in
theorem c_jLat_charAt_v259 {l : Launch} {D : va_G} {kA : Nat → ClassId} : ct_ok l D kA GG y_jLat_charAt z_jLat_charAt e_jLat_charAt_v259 := chk_all_ok (FT := []) (PT := []) (CT := t_jLat_charAt_v259_ct) (KT := []) (NT := []) (AN := n_jLat_charAt_v259_an) (OT := []) 0 200 (List.forall_mem_nil _) (by decide +kernel) ⟨List.forall_mem_nil _, List.forall_mem_nil _, List.forall_mem_cons.mpr ⟨cl_static (y := y_jStr_checkIndex) c_jStr_checkIndex_v161 wm_694 wm_11 wm_692 wm_693 ⟨by decide, by decide, by decide +kernel⟩ (by decide), List.forall_mem_cons.mpr ⟨cl_tlen (i := 29) (n := 4) rfl (by decide +kernel) (by decide +kernel) (by decide +kernel), List.forall_mem_cons.mpr ⟨cl_tbyte (i := 29) (n := 4) rfl (by decide +kernel) (by decide +kernel) (by decide +kernel) (by decide +kernel), List.forall_mem_nil _⟩⟩⟩, List.forall_mem_nil _, List.forall_mem_nil _, GG_pl⟩ (by decide +kernel)
def e_jLat_charAt_v262 : en_T := ([(2, 0, 0, [5230]), (0, 0, 2, [])], some (0, 0, 65535, []), true, 3, 0, 0, [], [], (0, [], [], [], []))
def n_jLat_charAt_v262_an : List an_T := []
def t_jLat_charAt_v262_ct : ct_L := [(12, 9, e_jStr_checkIndex_v157), (1000004, 0, en_ro [(2, 0, 0, [5230])] (0, 3, 3, [])), (1000005, 0, en_ro [(2, 0, 0, [5230]), (0, 0, 2, [])] (0, 99, 117, []))]
set_option maxRecDepth 100000 in
theorem c_jLat_charAt_v262 {l : Launch} {D : va_G} {kA : Nat → ClassId} : ct_ok l D kA GG y_jLat_charAt z_jLat_charAt e_jLat_charAt_v262 := chk_all_ok (FT := []) (PT := []) (CT := t_jLat_charAt_v262_ct) (KT := []) (NT := []) (AN := n_jLat_charAt_v262_an) (OT := []) 0 200 (List.forall_mem_nil _) (by decide +kernel) ⟨List.forall_mem_nil _, List.forall_mem_nil _, List.forall_mem_cons.mpr ⟨cl_static (y := y_jStr_checkIndex) c_jStr_checkIndex_v157 wm_694 wm_11 wm_692 wm_693 ⟨by decide, by decide, by decide +kernel⟩ (by decide), List.forall_mem_cons.mpr ⟨cl_tlen (i := 30) (n := 3) rfl (by decide +kernel) (by decide +kernel) (by decide +kernel), List.forall_mem_cons.mpr ⟨cl_tbyte (i := 30) (n := 3) rfl (by decide +kernel) (by decide +kernel) (by decide +kernel) (by decide +kernel), List.forall_mem_nil _⟩⟩⟩, List.forall_mem_nil _, List.forall_mem_nil _, GG_pl⟩ (by decide +kernel)
def e_jLat_charAt_v265 : en_T := ([(2, 0, 0, [5231]), (0, 0, 0, [])], some (0, 0, 65535, []), true, 3, 0, 0, [], [], (0, [], [], [], []))
def n_jLat_charAt_v265_an : List an_T := []
def t_jLat_charAt_v265_ct : ct_L := [(12, 9, e_jStr_checkIndex_v266), (1000004, 0, en_ro [(2, 0, 0, [5231])] (0, 1, 1, [])), (1000005, 0, en_ro [(2, 0, 0, [5231]), (0, 0, 0, [])] (0, 120, 120, []))]
set_option maxRecDepth 100000 in
theorem c_jLat_charAt_v265 {l : Launch} {D : va_G} {kA : Nat → ClassId} : ct_ok l D kA GG y_jLat_charAt z_jLat_charAt e_jLat_charAt_v265 := chk_all_ok (FT := []) (PT := []) (CT := t_jLat_charAt_v265_ct) (KT := []) (NT := []) (AN := n_jLat_charAt_v265_an) (OT := []) 0 200 (List.forall_mem_nil _) (by decide +kernel) ⟨List.forall_mem_nil _, List.forall_mem_nil _, List.forall_mem_cons.mpr ⟨cl_static (y := y_jStr_checkIndex) c_jStr_checkIndex_v266 wm_694 wm_11 wm_692 wm_693 ⟨by decide, by decide, by decide +kernel⟩ (by decide), List.forall_mem_cons.mpr ⟨cl_tlen (i := 31) (n := 1) rfl (by decide +kernel) (by decide +kernel) (by decide +kernel), List.forall_mem_cons.mpr ⟨cl_tbyte (i := 31) (n := 1) rfl (by decide +kernel) (by decide +kernel) (by decide +kernel) (by decide +kernel), List.forall_mem_nil _⟩⟩⟩, List.forall_mem_nil _, List.forall_mem_nil _, GG_pl⟩ (by decide +kernel)
def e_jLat_charAt_v270 : en_T := ([(2, 0, 0, [5232]), (0, 0, 0, [])], some (0, 0, 65535, []), true, 3, 0, 0, [], [], (0, [], [], [], []))
def n_jLat_charAt_v270_an : List an_T := []
def t_jLat_charAt_v270_ct : ct_L := [(12, 9, e_jStr_checkIndex_v266), (1000004, 0, en_ro [(2, 0, 0, [5232])] (0, 1, 1, [])), (1000005, 0, en_ro [(2, 0, 0, [5232]), (0, 0, 0, [])] (0, 121, 121, []))]
set_option maxRecDepth 100000 in
theorem c_jLat_charAt_v270 {l : Launch} {D : va_G} {kA : Nat → ClassId} : ct_ok l D kA GG y_jLat_charAt z_jLat_charAt e_jLat_charAt_v270 := chk_all_ok (FT := []) (PT := []) (CT := t_jLat_charAt_v270_ct) (KT := []) (NT := []) (AN := n_jLat_charAt_v270_an) (OT := []) 0 200 (List.forall_mem_nil _) (by decide +kernel) ⟨List.forall_mem_nil _, List.forall_mem_nil _, List.forall_mem_cons.mpr ⟨cl_static (y := y_jStr_checkIndex) c_jStr_checkIndex_v266 wm_694 wm_11 wm_692 wm_693 ⟨by decide, by decide, by decide +kernel⟩ (by decide), List.forall_mem_cons.mpr ⟨cl_tlen (i := 32) (n := 1) rfl (by decide +kernel) (by decide +kernel) (by decide +kernel), List.forall_mem_cons.mpr ⟨cl_tbyte (i := 32) (n := 1) rfl (by decide +kernel) (by decide +kernel) (by decide +kernel) (by decide +kernel), List.forall_mem_nil _⟩⟩⟩, List.forall_mem_nil _, List.forall_mem_nil _, GG_pl⟩ (by decide +kernel)
def e_jLat_charAt_v273 : en_T := ([(2, 0, 0, [5233]), (0, 0, 5, [])], some (0, 0, 65535, []), true, 3, 0, 0, [], [], (0, [], [], [], []))
def n_jLat_charAt_v273_an : List an_T := []
def t_jLat_charAt_v273_ct : ct_L := [(12, 9, e_jStr_checkIndex_v186), (1000004, 0, en_ro [(2, 0, 0, [5233])] (0, 6, 6, [])), (1000005, 0, en_ro [(2, 0, 0, [5233]), (0, 0, 5, [])] (0, 100, 117, []))]
set_option maxRecDepth 100000 in
theorem c_jLat_charAt_v273 {l : Launch} {D : va_G} {kA : Nat → ClassId} : ct_ok l D kA GG y_jLat_charAt z_jLat_charAt e_jLat_charAt_v273 := chk_all_ok (FT := []) (PT := []) (CT := t_jLat_charAt_v273_ct) (KT := []) (NT := []) (AN := n_jLat_charAt_v273_an) (OT := []) 0 200 (List.forall_mem_nil _) (by decide +kernel) ⟨List.forall_mem_nil _, List.forall_mem_nil _, List.forall_mem_cons.mpr ⟨cl_static (y := y_jStr_checkIndex) c_jStr_checkIndex_v186 wm_694 wm_11 wm_692 wm_693 ⟨by decide, by decide, by decide +kernel⟩ (by decide), List.forall_mem_cons.mpr ⟨cl_tlen (i := 33) (n := 6) rfl (by decide +kernel) (by decide +kernel) (by decide +kernel), List.forall_mem_cons.mpr ⟨cl_tbyte (i := 33) (n := 6) rfl (by decide +kernel) (by decide +kernel) (by decide +kernel) (by decide +kernel), List.forall_mem_nil _⟩⟩⟩, List.forall_mem_nil _, List.forall_mem_nil _, GG_pl⟩ (by decide +kernel)
def e_jLat_charAt_v276 : en_T := ([(2, 0, 0, [5234]), (0, 0, 5, [])], some (0, 0, 65535, []), true, 3, 0, 0, [], [], (0, [], [], [], []))
def n_jLat_charAt_v276_an : List an_T := []
def t_jLat_charAt_v276_ct : ct_L := [(12, 9, e_jStr_checkIndex_v186), (1000004, 0, en_ro [(2, 0, 0, [5234])] (0, 6, 6, [])), (1000005, 0, en_ro [(2, 0, 0, [5234]), (0, 0, 5, [])] (0, 98, 114, []))]
set_option maxRecDepth 100000 in
theorem c_jLat_charAt_v276 {l : Launch} {D : va_G} {kA : Nat → ClassId} : ct_ok l D kA GG y_jLat_charAt z_jLat_charAt e_jLat_charAt_v276 := chk_all_ok (FT := []) (PT := []) (CT := t_jLat_charAt_v276_ct) (KT := []) (NT := []) (AN := n_jLat_charAt_v276_an) (OT := []) 0 200 (List.forall_mem_nil _) (by decide +kernel) ⟨List.forall_mem_nil _, List.forall_mem_nil _, List.forall_mem_cons.mpr ⟨cl_static (y := y_jStr_checkIndex) c_jStr_checkIndex_v186 wm_694 wm_11 wm_692 wm_693 ⟨by decide, by decide, by decide +kernel⟩ (by decide), List.forall_mem_cons.mpr ⟨cl_tlen (i := 34) (n := 6) rfl (by decide +kernel) (by decide +kernel) (by decide +kernel), List.forall_mem_cons.mpr ⟨cl_tbyte (i := 34) (n := 6) rfl (by decide +kernel) (by decide +kernel) (by decide +kernel) (by decide +kernel), List.forall_mem_nil _⟩⟩⟩, List.forall_mem_nil _, List.forall_mem_nil _, GG_pl⟩ (by decide +kernel)
def e_jLat_charAt_v279 : en_T := ([(2, 0, 0, [5235]), (0, 0, 3, [])], some (0, 0, 65535, []), true, 3, 0, 0, [], [], (0, [], [], [], []))
def n_jLat_charAt_v279_an : List an_T := []
def t_jLat_charAt_v279_ct : ct_L := [(12, 9, e_jStr_checkIndex_v161), (1000004, 0, en_ro [(2, 0, 0, [5235])] (0, 4, 4, [])), (1000005, 0, en_ro [(2, 0, 0, [5235]), (0, 0, 3, [])] (0, 102, 114, []))]
set_option maxRecDepth 100000 in
theorem c_jLat_charAt_v279 {l : Launch} {D : va_G} {kA : Nat → ClassId} : ct_ok l D kA GG y_jLat_charAt z_jLat_charAt e_jLat_charAt_v279 := chk_all_ok (FT := []) (PT := []) (CT := t_jLat_charAt_v279_ct) (KT := []) (NT := []) (AN := n_jLat_charAt_v279_an) (OT := []) 0 200 (List.forall_mem_nil _) (by decide +kernel) ⟨List.forall_mem_nil _, List.forall_mem_nil _, List.forall_mem_cons.mpr ⟨cl_static (y := y_jStr_checkIndex) c_jStr_checkIndex_v161 wm_694 wm_11 wm_692 wm_693 ⟨by decide, by decide, by decide +kernel⟩ (by decide), List.forall_mem_cons.mpr ⟨cl_tlen (i := 35) (n := 4) rfl (by decide +kernel) (by decide +kernel) (by decide +kernel), List.forall_mem_cons.mpr ⟨cl_tbyte (i := 35) (n := 4) rfl (by decide +kernel) (by decide +kernel) (by decide +kernel) (by decide +kernel), List.forall_mem_nil _⟩⟩⟩, List.forall_mem_nil _, List.forall_mem_nil _, GG_pl⟩ (by decide +kernel)
def e_jLat_charAt_v282 : en_T := ([(2, 0, 0, [5236]), (0, 0, 1, [])], some (0, 0, 65535, []), true, 3, 0, 0, [], [], (0, [], [], [], []))
def n_jLat_charAt_v282_an : List an_T := []
def t_jLat_charAt_v282_ct : ct_L := [(12, 9, e_jStr_checkIndex_v199), (1000004, 0, en_ro [(2, 0, 0, [5236])] (0, 2, 2, [])), (1000005, 0, en_ro [(2, 0, 0, [5236]), (0, 0, 1, [])] (0, 111, 116, []))]
set_option maxRecDepth 100000 in
theorem c_jLat_charAt_v282 {l : Launch} {D : va_G} {kA : Nat → ClassId} : ct_ok l D kA GG y_jLat_charAt z_jLat_charAt e_jLat_charAt_v282 := chk_all_ok (FT := []) (PT := []) (CT := t_jLat_charAt_v282_ct) (KT := []) (NT := []) (AN := n_jLat_charAt_v282_an) (OT := []) 0 200 (List.forall_mem_nil _) (by decide +kernel) ⟨List.forall_mem_nil _, List.forall_mem_nil _, List.forall_mem_cons.mpr ⟨cl_static (y := y_jStr_checkIndex) c_jStr_checkIndex_v199 wm_694 wm_11 wm_692 wm_693 ⟨by decide, by decide, by decide +kernel⟩ (by decide), List.forall_mem_cons.mpr ⟨cl_tlen (i := 36) (n := 2) rfl (by decide +kernel) (by decide +kernel) (by decide +kernel), List.forall_mem_cons.mpr ⟨cl_tbyte (i := 36) (n := 2) rfl (by decide +kernel) (by decide +kernel) (by decide +kernel) (by decide +kernel), List.forall_mem_nil _⟩⟩⟩, List.forall_mem_nil _, List.forall_mem_nil _, GG_pl⟩ (by decide +kernel)
def e_jLat_charAt_v285 : en_T := ([(2, 0, 0, [5237]), (0, 0, 4, [])], some (0, 0, 65535, []), true, 3, 0, 0, [], [], (0, [], [], [], []))
def n_jLat_charAt_v285_an : List an_T := []
def t_jLat_charAt_v285_ct : ct_L := [(12, 9, e_jStr_checkIndex_v178), (1000004, 0, en_ro [(2, 0, 0, [5237])] (0, 5, 5, [])), (1000005, 0, en_ro [(2, 0, 0, [5237]), (0, 0, 4, [])] (0, 98, 111, []))]
set_option maxRecDepth 100000 in
theorem c_jLat_charAt_v285 {l : Launch} {D : va_G} {kA : Nat → ClassId} : ct_ok l D kA GG y_jLat_charAt z_jLat_charAt e_jLat_charAt_v285 := chk_all_ok (FT := []) (PT := []) (CT := t_jLat_charAt_v285_ct) (KT := []) (NT := []) (AN := n_jLat_charAt_v285_an) (OT := []) 0 200 (List.forall_mem_nil _) (by decide +kernel) ⟨List.forall_mem_nil _, List.forall_mem_nil _, List.forall_mem_cons.mpr ⟨cl_static (y := y_jStr_checkIndex) c_jStr_checkIndex_v178 wm_694 wm_11 wm_692 wm_693 ⟨by decide, by decide, by decide +kernel⟩ (by decide), List.forall_mem_cons.mpr ⟨cl_tlen (i := 37) (n := 5) rfl (by decide +kernel) (by decide +kernel) (by decide +kernel), List.forall_mem_cons.mpr ⟨cl_tbyte (i := 37) (n := 5) rfl (by decide +kernel) (by decide +kernel) (by decide +kernel) (by decide +kernel), List.forall_mem_nil _⟩⟩⟩, List.forall_mem_nil _, List.forall_mem_nil _, GG_pl⟩ (by decide +kernel)
def e_jLat_charAt_v288 : en_T := ([(2, 0, 0, [5238]), (0, 0, 3, [])], some (0, 0, 65535, []), true, 3, 0, 0, [], [], (0, [], [], [], []))
def n_jLat_charAt_v288_an : List an_T := []
def t_jLat_charAt_v288_ct : ct_L := [(12, 9, e_jStr_checkIndex_v161), (1000004, 0, en_ro [(2, 0, 0, [5238])] (0, 4, 4, [])), (1000005, 0, en_ro [(2, 0, 0, [5238]), (0, 0, 3, [])] (0, 103, 111, []))]
set_option maxRecDepth 100000 in
theorem c_jLat_charAt_v288 {l : Launch} {D : va_G} {kA : Nat → ClassId} : ct_ok l D kA GG y_jLat_charAt z_jLat_charAt e_jLat_charAt_v288 := chk_all_ok (FT := []) (PT := []) (CT := t_jLat_charAt_v288_ct) (KT := []) (NT := []) (AN := n_jLat_charAt_v288_an) (OT := []) 0 200 (List.forall_mem_nil _) (by decide +kernel) ⟨List.forall_mem_nil _, List.forall_mem_nil _, List.forall_mem_cons.mpr ⟨cl_static (y := y_jStr_checkIndex) c_jStr_checkIndex_v161 wm_694 wm_11 wm_692 wm_693 ⟨by decide, by decide, by decide +kernel⟩ (by decide), List.forall_mem_cons.mpr ⟨cl_tlen (i := 38) (n := 4) rfl (by decide +kernel) (by decide +kernel) (by decide +kernel), List.forall_mem_cons.mpr ⟨cl_tbyte (i := 38) (n := 4) rfl (by decide +kernel) (by decide +kernel) (by decide +kernel) (by decide +kernel), List.forall_mem_nil _⟩⟩⟩, List.forall_mem_nil _, List.forall_mem_nil _, GG_pl⟩ (by decide +kernel)
def e_jLat_charAt_v291 : en_T := ([(2, 0, 0, [5239]), (0, 0, 2, [])], some (0, 0, 65535, []), true, 3, 0, 0, [], [], (0, [], [], [], []))
def n_jLat_charAt_v291_an : List an_T := []
def t_jLat_charAt_v291_ct : ct_L := [(12, 9, e_jStr_checkIndex_v157), (1000004, 0, en_ro [(2, 0, 0, [5239])] (0, 3, 3, [])), (1000005, 0, en_ro [(2, 0, 0, [5239]), (0, 0, 2, [])] (0, 101, 111, []))]
set_option maxRecDepth 100000 in
theorem c_jLat_charAt_v291 {l : Launch} {D : va_G} {kA : Nat → ClassId} : ct_ok l D kA GG y_jLat_charAt z_jLat_charAt e_jLat_charAt_v291 := chk_all_ok (FT := []) (PT := []) (CT := t_jLat_charAt_v291_ct) (KT := []) (NT := []) (AN := n_jLat_charAt_v291_an) (OT := []) 0 200 (List.forall_mem_nil _) (by decide +kernel) ⟨List.forall_mem_nil _, List.forall_mem_nil _, List.forall_mem_cons.mpr ⟨cl_static (y := y_jStr_checkIndex) c_jStr_checkIndex_v157 wm_694 wm_11 wm_692 wm_693 ⟨by decide, by decide, by decide +kernel⟩ (by decide), List.forall_mem_cons.mpr ⟨cl_tlen (i := 39) (n := 3) rfl (by decide +kernel) (by decide +kernel) (by decide +kernel), List.forall_mem_cons.mpr ⟨cl_tbyte (i := 39) (n := 3) rfl (by decide +kernel) (by decide +kernel) (by decide +kernel) (by decide +kernel), List.forall_mem_nil _⟩⟩⟩, List.forall_mem_nil _, List.forall_mem_nil _, GG_pl⟩ (by decide +kernel)
def e_jLat_charAt_v294 : en_T := ([(2, 0, 0, [5240]), (0, 0, 2, [])], some (0, 0, 65535, []), true, 3, 0, 0, [], [], (0, [], [], [], []))
def n_jLat_charAt_v294_an : List an_T := []
def t_jLat_charAt_v294_ct : ct_L := [(12, 9, e_jStr_checkIndex_v157), (1000004, 0, en_ro [(2, 0, 0, [5240])] (0, 3, 3, [])), (1000005, 0, en_ro [(2, 0, 0, [5240]), (0, 0, 2, [])] (0, 97, 110, []))]
set_option maxRecDepth 100000 in
theorem c_jLat_charAt_v294 {l : Launch} {D : va_G} {kA : Nat → ClassId} : ct_ok l D kA GG y_jLat_charAt z_jLat_charAt e_jLat_charAt_v294 := chk_all_ok (FT := []) (PT := []) (CT := t_jLat_charAt_v294_ct) (KT := []) (NT := []) (AN := n_jLat_charAt_v294_an) (OT := []) 0 200 (List.forall_mem_nil _) (by decide +kernel) ⟨List.forall_mem_nil _, List.forall_mem_nil _, List.forall_mem_cons.mpr ⟨cl_static (y := y_jStr_checkIndex) c_jStr_checkIndex_v157 wm_694 wm_11 wm_692 wm_693 ⟨by decide, by decide, by decide +kernel⟩ (by decide), List.forall_mem_cons.mpr ⟨cl_tlen (i := 40) (n := 3) rfl (by decide +kernel) (by decide +kernel) (by decide +kernel), List.forall_mem_cons.mpr ⟨cl_tbyte (i := 40) (n := 3) rfl (by decide +kernel) (by decide +kernel) (by decide +kernel) (by decide +kernel), List.forall_mem_nil _⟩⟩⟩, List.forall_mem_nil _, List.forall_mem_nil _, GG_pl⟩ (by decide +kernel)
def e_jLat_charAt_v297 : en_T := ([(2, 0, 0, [5241]), (0, 0, 1, [])], some (0, 0, 65535, []), true, 3, 0, 0, [], [], (0, [], [], [], []))
def n_jLat_charAt_v297_an : List an_T := []
def t_jLat_charAt_v297_ct : ct_L := [(12, 9, e_jStr_checkIndex_v199), (1000004, 0, en_ro [(2, 0, 0, [5241])] (0, 2, 2, [])), (1000005, 0, en_ro [(2, 0, 0, [5241]), (0, 0, 1, [])] (0, 111, 114, []))]
set_option maxRecDepth 100000 in
theorem c_jLat_charAt_v297 {l : Launch} {D : va_G} {kA : Nat → ClassId} : ct_ok l D kA GG y_jLat_charAt z_jLat_charAt e_jLat_charAt_v297 := chk_all_ok (FT := []) (PT := []) (CT := t_jLat_charAt_v297_ct) (KT := []) (NT := []) (AN := n_jLat_charAt_v297_an) (OT := []) 0 200 (List.forall_mem_nil _) (by decide +kernel) ⟨List.forall_mem_nil _, List.forall_mem_nil _, List.forall_mem_cons.mpr ⟨cl_static (y := y_jStr_checkIndex) c_jStr_checkIndex_v199 wm_694 wm_11 wm_692 wm_693 ⟨by decide, by decide, by decide +kernel⟩ (by decide), List.forall_mem_cons.mpr ⟨cl_tlen (i := 41) (n := 2) rfl (by decide +kernel) (by decide +kernel) (by decide +kernel), List.forall_mem_cons.mpr ⟨cl_tbyte (i := 41) (n := 2) rfl (by decide +kernel) (by decide +kernel) (by decide +kernel) (by decide +kernel), List.forall_mem_nil _⟩⟩⟩, List.forall_mem_nil _, List.forall_mem_nil _, GG_pl⟩ (by decide +kernel)
def e_jLat_charAt_v300 : en_T := ([(2, 0, 0, [5242]), (0, 0, 4, [])], some (0, 0, 65535, []), true, 3, 0, 0, [], [], (0, [], [], [], []))
def n_jLat_charAt_v300_an : List an_T := []
def t_jLat_charAt_v300_ct : ct_L := [(12, 9, e_jStr_checkIndex_v178), (1000004, 0, en_ro [(2, 0, 0, [5242])] (0, 5, 5, [])), (1000005, 0, en_ro [(2, 0, 0, [5242]), (0, 0, 4, [])] (0, 99, 114, []))]
set_option maxRecDepth 100000 in
theorem c_jLat_charAt_v300 {l : Launch} {D : va_G} {kA : Nat → ClassId} : ct_ok l D kA GG y_jLat_charAt z_jLat_charAt e_jLat_charAt_v300 := chk_all_ok (FT := []) (PT := []) (CT := t_jLat_charAt_v300_ct) (KT := []) (NT := []) (AN := n_jLat_charAt_v300_an) (OT := []) 0 200 (List.forall_mem_nil _) (by decide +kernel) ⟨List.forall_mem_nil _, List.forall_mem_nil _, List.forall_mem_cons.mpr ⟨cl_static (y := y_jStr_checkIndex) c_jStr_checkIndex_v178 wm_694 wm_11 wm_692 wm_693 ⟨by decide, by decide, by decide +kernel⟩ (by decide), List.forall_mem_cons.mpr ⟨cl_tlen (i := 42) (n := 5) rfl (by decide +kernel) (by decide +kernel) (by decide +kernel), List.forall_mem_cons.mpr ⟨cl_tbyte (i := 42) (n := 5) rfl (by decide +kernel) (by decide +kernel) (by decide +kernel) (by decide +kernel), List.forall_mem_nil _⟩⟩⟩, List.forall_mem_nil _, List.forall_mem_nil _, GG_pl⟩ (by decide +kernel)
def e_jLat_charAt_v303 : en_T := ([(2, 0, 0, [5243]), (0, 0, 4, [])], some (0, 0, 65535, []), true, 3, 0, 0, [], [], (0, [], [], [], []))
def n_jLat_charAt_v303_an : List an_T := []
def t_jLat_charAt_v303_ct : ct_L := [(12, 9, e_jStr_checkIndex_v178), (1000004, 0, en_ro [(2, 0, 0, [5243])] (0, 5, 5, [])), (1000005, 0, en_ro [(2, 0, 0, [5243]), (0, 0, 4, [])] (0, 100, 119, []))]
set_option maxRecDepth 100000 in
theorem c_jLat_charAt_v303 {l : Launch} {D : va_G} {kA : Nat → ClassId} : ct_ok l D kA GG y_jLat_charAt z_jLat_charAt e_jLat_charAt_v303 := chk_all_ok (FT := []) (PT := []) (CT := t_jLat_charAt_v303_ct) (KT := []) (NT := []) (AN := n_jLat_charAt_v303_an) (OT := []) 0 200 (List.forall_mem_nil _) (by decide +kernel) ⟨List.forall_mem_nil _, List.forall_mem_nil _, List.forall_mem_cons.mpr ⟨cl_static (y := y_jStr_checkIndex) c_jStr_checkIndex_v178 wm_694 wm_11 wm_692 wm_693 ⟨by decide, by decide, by decide +kernel⟩ (by decide), List.forall_mem_cons.mpr ⟨cl_tlen (i := 43) (n := 5) rfl (by decide +kernel) (by decide +kernel) (by decide +kernel), List.forall_mem_cons.mpr ⟨cl_tbyte (i := 43) (n := 5) rfl (by decide +kernel) (by decide +kernel) (by decide +kernel) (by decide +kernel), List.forall_mem_nil _⟩⟩⟩, List.forall_mem_nil _, List.forall_mem_nil _, GG_pl⟩ (by decide +kernel)
def e_jLat_charAt_v306 : en_T := ([(2, 0, 0, [5244]), (0, 0, 3, [])], some (0, 0, 65535, []), true, 3, 0, 0, [], [], (0, [], [], [], []))
def n_jLat_charAt_v306_an : List an_T := []
def t_jLat_charAt_v306_ct : ct_L := [(12, 9, e_jStr_checkIndex_v161), (1000004, 0, en_ro [(2, 0, 0, [5244])] (0, 4, 4, [])), (1000005, 0, en_ro [(2, 0, 0, [5244]), (0, 0, 3, [])] (0, 102, 114, []))]
set_option maxRecDepth 100000 in
theorem c_jLat_charAt_v306 {l : Launch} {D : va_G} {kA : Nat → ClassId} : ct_ok l D kA GG y_jLat_charAt z_jLat_charAt e_jLat_charAt_v306 := chk_all_ok (FT := []) (PT := []) (CT := t_jLat_charAt_v306_ct) (KT := []) (NT := []) (AN := n_jLat_charAt_v306_an) (OT := []) 0 200 (List.forall_mem_nil _) (by decide +kernel) ⟨List.forall_mem_nil _, List.forall_mem_nil _, List.forall_mem_cons.mpr ⟨cl_static (y := y_jStr_checkIndex) c_jStr_checkIndex_v161 wm_694 wm_11 wm_692 wm_693 ⟨by decide, by decide, by decide +kernel⟩ (by decide), List.forall_mem_cons.mpr ⟨cl_tlen (i := 44) (n := 4) rfl (by decide +kernel) (by decide +kernel) (by decide +kernel), List.forall_mem_cons.mpr ⟨cl_tbyte (i := 44) (n := 4) rfl (by decide +kernel) (by decide +kernel) (by decide +kernel) (by decide +kernel), List.forall_mem_nil _⟩⟩⟩, List.forall_mem_nil _, List.forall_mem_nil _, GG_pl⟩ (by decide +kernel)
def e_jLat_charAt_v309 : en_T := ([(2, 0, 0, [5245]), (0, 0, 0, [])], some (0, 0, 65535, []), true, 3, 0, 0, [], [], (0, [], [], [], []))
def n_jLat_charAt_v309_an : List an_T := []
def t_jLat_charAt_v309_ct : ct_L := [(12, 9, e_jStr_checkIndex_v266), (1000004, 0, en_ro [(2, 0, 0, [5245])] (0, 1, 1, [])), (1000005, 0, en_ro [(2, 0, 0, [5245]), (0, 0, 0, [])] (0, 93, 93, []))]
set_option maxRecDepth 100000 in
theorem c_jLat_charAt_v309 {l : Launch} {D : va_G} {kA : Nat → ClassId} : ct_ok l D kA GG y_jLat_charAt z_jLat_charAt e_jLat_charAt_v309 := chk_all_ok (FT := []) (PT := []) (CT := t_jLat_charAt_v309_ct) (KT := []) (NT := []) (AN := n_jLat_charAt_v309_an) (OT := []) 0 200 (List.forall_mem_nil _) (by decide +kernel) ⟨List.forall_mem_nil _, List.forall_mem_nil _, List.forall_mem_cons.mpr ⟨cl_static (y := y_jStr_checkIndex) c_jStr_checkIndex_v266 wm_694 wm_11 wm_692 wm_693 ⟨by decide, by decide, by decide +kernel⟩ (by decide), List.forall_mem_cons.mpr ⟨cl_tlen (i := 45) (n := 1) rfl (by decide +kernel) (by decide +kernel) (by decide +kernel), List.forall_mem_cons.mpr ⟨cl_tbyte (i := 45) (n := 1) rfl (by decide +kernel) (by decide +kernel) (by decide +kernel) (by decide +kernel), List.forall_mem_nil _⟩⟩⟩, List.forall_mem_nil _, List.forall_mem_nil _, GG_pl⟩ (by decide +kernel)
def e_jStr_charAt_v142 : en_T := ([(2, 0, 0, [5004]), (0, 0, 38, [])], some (0, 0, 65535, []), true, 4, 0, 0, [], [], (0, [], [], [], []))
def n_jStr_charAt_v142_an : List an_T := []
def t_jStr_charAt_v142_ct : ct_L := [(7, 492, e_jStr_isLatin1_v143), (39, 495, e_jLat_charAt_v144), (1000003, 9, en_ro [(2, 0, 0, [5004])] (2, 0, 0, [5204]))]
set_option maxRecDepth 100000 in
theorem c_jStr_charAt_v142 {l : Launch} {D : va_G} {kA : Nat → ClassId} : ct_ok l D kA GG y_jStr_charAt z_jStr_charAt e_jStr_charAt_v142 := chk_all_ok (FT := []) (PT := []) (CT := t_jStr_charAt_v142_ct) (KT := []) (NT := []) (AN := n_jStr_charAt_v142_an) (OT := []) 0 200 (List.forall_mem_nil _) (by decide +kernel) ⟨List.forall_mem_nil _, List.forall_mem_nil _, List.forall_mem_cons.mpr ⟨cl_stringS (y := y_jStr_isLatin1) (rs := ro_strs) rfl (by decide +kernel) rfl c_jStr_isLatin1_v143 wm_688 wm_11 wm_685 wm_686 wm_687 ⟨by decide, by decide, by decide +kernel⟩ (by decide), List.forall_mem_cons.mpr ⟨cl_static (y := y_jLat_charAt) c_jLat_charAt_v144 wm_691 wm_12 wm_689 wm_690 ⟨by decide, by decide, by decide +kernel⟩ (by decide), List.forall_mem_cons.mpr ⟨cl_value (i := 4) wm_3969 rfl (by decide +kernel) (by decide +kernel) (by decide +kernel), List.forall_mem_nil _⟩⟩⟩, List.forall_mem_nil _, List.forall_mem_nil _, GG_pl⟩ (by decide +kernel)
def e_jStr_charAt_v147 : en_T := ([(2, 0, 0, [5006]), (0, 0, 9, [])], some (0, 0, 65535, []), true, 4, 0, 0, [], [], (0, [], [], [], []))
def n_jStr_charAt_v147_an : List an_T := []
def t_jStr_charAt_v147_ct : ct_L := [(7, 492, e_jStr_isLatin1_v143), (39, 495, e_jLat_charAt_v148), (1000003, 9, en_ro [(2, 0, 0, [5006])] (2, 0, 0, [5206]))]
set_option maxRecDepth 100000 in
theorem c_jStr_charAt_v147 {l : Launch} {D : va_G} {kA : Nat → ClassId} : ct_ok l D kA GG y_jStr_charAt z_jStr_charAt e_jStr_charAt_v147 := chk_all_ok (FT := []) (PT := []) (CT := t_jStr_charAt_v147_ct) (KT := []) (NT := []) (AN := n_jStr_charAt_v147_an) (OT := []) 0 200 (List.forall_mem_nil _) (by decide +kernel) ⟨List.forall_mem_nil _, List.forall_mem_nil _, List.forall_mem_cons.mpr ⟨cl_stringS (y := y_jStr_isLatin1) (rs := ro_strs) rfl (by decide +kernel) rfl c_jStr_isLatin1_v143 wm_688 wm_11 wm_685 wm_686 wm_687 ⟨by decide, by decide, by decide +kernel⟩ (by decide), List.forall_mem_cons.mpr ⟨cl_static (y := y_jLat_charAt) c_jLat_charAt_v148 wm_691 wm_12 wm_689 wm_690 ⟨by decide, by decide, by decide +kernel⟩ (by decide), List.forall_mem_cons.mpr ⟨cl_value (i := 6) wm_3969 rfl (by decide +kernel) (by decide +kernel) (by decide +kernel), List.forall_mem_nil _⟩⟩⟩, List.forall_mem_nil _, List.forall_mem_nil _, GG_pl⟩ (by decide +kernel)
def e_jStr_charAt_v151 : en_T := ([(2, 0, 0, [5007]), (0, 0, 43, [])], some (0, 0, 65535, []), true, 4, 0, 0, [], [], (0, [], [], [], []))
def n_jStr_charAt_v151_an : List an_T := []
def t_jStr_charAt_v151_ct : ct_L := [(7, 492, e_jStr_isLatin1_v143), (39, 495, e_jLat_charAt_v152), (1000003, 9, en_ro [(2, 0, 0, [5007])] (2, 0, 0, [5207]))]
set_option maxRecDepth 100000 in
theorem c_jStr_charAt_v151 {l : Launch} {D : va_G} {kA : Nat → ClassId} : ct_ok l D kA GG y_jStr_charAt z_jStr_charAt e_jStr_charAt_v151 := chk_all_ok (FT := []) (PT := []) (CT := t_jStr_charAt_v151_ct) (KT := []) (NT := []) (AN := n_jStr_charAt_v151_an) (OT := []) 0 200 (List.forall_mem_nil _) (by decide +kernel) ⟨List.forall_mem_nil _, List.forall_mem_nil _, List.forall_mem_cons.mpr ⟨cl_stringS (y := y_jStr_isLatin1) (rs := ro_strs) rfl (by decide +kernel) rfl c_jStr_isLatin1_v143 wm_688 wm_11 wm_685 wm_686 wm_687 ⟨by decide, by decide, by decide +kernel⟩ (by decide), List.forall_mem_cons.mpr ⟨cl_static (y := y_jLat_charAt) c_jLat_charAt_v152 wm_691 wm_12 wm_689 wm_690 ⟨by decide, by decide, by decide +kernel⟩ (by decide), List.forall_mem_cons.mpr ⟨cl_value (i := 7) wm_3969 rfl (by decide +kernel) (by decide +kernel) (by decide +kernel), List.forall_mem_nil _⟩⟩⟩, List.forall_mem_nil _, List.forall_mem_nil _, GG_pl⟩ (by decide +kernel)
def e_jStr_charAt_v155 : en_T := ([(2, 0, 0, [5008]), (0, 0, 2, [])], some (0, 0, 65535, []), true, 4, 0, 0, [], [], (0, [], [], [], []))
def n_jStr_charAt_v155_an : List an_T := []
def t_jStr_charAt_v155_ct : ct_L := [(7, 492, e_jStr_isLatin1_v143), (39, 495, e_jLat_charAt_v156), (1000003, 9, en_ro [(2, 0, 0, [5008])] (2, 0, 0, [5208]))]
set_option maxRecDepth 100000 in
theorem c_jStr_charAt_v155 {l : Launch} {D : va_G} {kA : Nat → ClassId} : ct_ok l D kA GG y_jStr_charAt z_jStr_charAt e_jStr_charAt_v155 := chk_all_ok (FT := []) (PT := []) (CT := t_jStr_charAt_v155_ct) (KT := []) (NT := []) (AN := n_jStr_charAt_v155_an) (OT := []) 0 200 (List.forall_mem_nil _) (by decide +kernel) ⟨List.forall_mem_nil _, List.forall_mem_nil _, List.forall_mem_cons.mpr ⟨cl_stringS (y := y_jStr_isLatin1) (rs := ro_strs) rfl (by decide +kernel) rfl c_jStr_isLatin1_v143 wm_688 wm_11 wm_685 wm_686 wm_687 ⟨by decide, by decide, by decide +kernel⟩ (by decide), List.forall_mem_cons.mpr ⟨cl_static (y := y_jLat_charAt) c_jLat_charAt_v156 wm_691 wm_12 wm_689 wm_690 ⟨by decide, by decide, by decide +kernel⟩ (by decide), List.forall_mem_cons.mpr ⟨cl_value (i := 8) wm_3969 rfl (by decide +kernel) (by decide +kernel) (by decide +kernel), List.forall_mem_nil _⟩⟩⟩, List.forall_mem_nil _, List.forall_mem_nil _, GG_pl⟩ (by decide +kernel)
def e_jStr_charAt_v159 : en_T := ([(2, 0, 0, [5009]), (0, 0, 3, [])], some (0, 0, 65535, []), true, 4, 0, 0, [], [], (0, [], [], [], []))
def n_jStr_charAt_v159_an : List an_T := []
def t_jStr_charAt_v159_ct : ct_L := [(7, 492, e_jStr_isLatin1_v143), (39, 495, e_jLat_charAt_v160), (1000003, 9, en_ro [(2, 0, 0, [5009])] (2, 0, 0, [5209]))]
set_option maxRecDepth 100000 in
theorem c_jStr_charAt_v159 {l : Launch} {D : va_G} {kA : Nat → ClassId} : ct_ok l D kA GG y_jStr_charAt z_jStr_charAt e_jStr_charAt_v159 := chk_all_ok (FT := []) (PT := []) (CT := t_jStr_charAt_v159_ct) (KT := []) (NT := []) (AN := n_jStr_charAt_v159_an) (OT := []) 0 200 (List.forall_mem_nil _) (by decide +kernel) ⟨List.forall_mem_nil _, List.forall_mem_nil _, List.forall_mem_cons.mpr ⟨cl_stringS (y := y_jStr_isLatin1) (rs := ro_strs) rfl (by decide +kernel) rfl c_jStr_isLatin1_v143 wm_688 wm_11 wm_685 wm_686 wm_687 ⟨by decide, by decide, by decide +kernel⟩ (by decide), List.forall_mem_cons.mpr ⟨cl_static (y := y_jLat_charAt) c_jLat_charAt_v160 wm_691 wm_12 wm_689 wm_690 ⟨by decide, by decide, by decide +kernel⟩ (by decide), List.forall_mem_cons.mpr ⟨cl_value (i := 9) wm_3969 rfl (by decide +kernel) (by decide +kernel) (by decide +kernel), List.forall_mem_nil _⟩⟩⟩, List.forall_mem_nil _, List.forall_mem_nil _, GG_pl⟩ (by decide +kernel)
def e_jStr_charAt_v163 : en_T := ([(2, 0, 0, [5010]), (0, 0, 3, [])], some (0, 0, 65535, []), true, 4, 0, 0, [], [], (0, [], [], [], []))
def n_jStr_charAt_v163_an : List an_T := []
def t_jStr_charAt_v163_ct : ct_L := [(7, 492, e_jStr_isLatin1_v143), (39, 495, e_jLat_charAt_v164), (1000003, 9, en_ro [(2, 0, 0, [5010])] (2, 0, 0, [5210]))]
set_option maxRecDepth 100000 in
theorem c_jStr_charAt_v163 {l : Launch} {D : va_G} {kA : Nat → ClassId} : ct_ok l D kA GG y_jStr_charAt z_jStr_charAt e_jStr_charAt_v163 := chk_all_ok (FT := []) (PT := []) (CT := t_jStr_charAt_v163_ct) (KT := []) (NT := []) (AN := n_jStr_charAt_v163_an) (OT := []) 0 200 (List.forall_mem_nil _) (by decide +kernel) ⟨List.forall_mem_nil _, List.forall_mem_nil _, List.forall_mem_cons.mpr ⟨cl_stringS (y := y_jStr_isLatin1) (rs := ro_strs) rfl (by decide +kernel) rfl c_jStr_isLatin1_v143 wm_688 wm_11 wm_685 wm_686 wm_687 ⟨by decide, by decide, by decide +kernel⟩ (by decide), List.forall_mem_cons.mpr ⟨cl_static (y := y_jLat_charAt) c_jLat_charAt_v164 wm_691 wm_12 wm_689 wm_690 ⟨by decide, by decide, by decide +kernel⟩ (by decide), List.forall_mem_cons.mpr ⟨cl_value (i := 10) wm_3969 rfl (by decide +kernel) (by decide +kernel) (by decide +kernel), List.forall_mem_nil _⟩⟩⟩, List.forall_mem_nil _, List.forall_mem_nil _, GG_pl⟩ (by decide +kernel)
def e_jStr_charAt_v165 : en_T := ([(2, 0, 0, [5011]), (0, 0, 2, [])], some (0, 0, 65535, []), true, 4, 0, 0, [], [], (0, [], [], [], []))
def n_jStr_charAt_v165_an : List an_T := []
def t_jStr_charAt_v165_ct : ct_L := [(7, 492, e_jStr_isLatin1_v143), (39, 495, e_jLat_charAt_v166), (1000003, 9, en_ro [(2, 0, 0, [5011])] (2, 0, 0, [5211]))]
set_option maxRecDepth 100000 in
theorem c_jStr_charAt_v165 {l : Launch} {D : va_G} {kA : Nat → ClassId} : ct_ok l D kA GG y_jStr_charAt z_jStr_charAt e_jStr_charAt_v165 := chk_all_ok (FT := []) (PT := []) (CT := t_jStr_charAt_v165_ct) (KT := []) (NT := []) (AN := n_jStr_charAt_v165_an) (OT := []) 0 200 (List.forall_mem_nil _) (by decide +kernel) ⟨List.forall_mem_nil _, List.forall_mem_nil _, List.forall_mem_cons.mpr ⟨cl_stringS (y := y_jStr_isLatin1) (rs := ro_strs) rfl (by decide +kernel) rfl c_jStr_isLatin1_v143 wm_688 wm_11 wm_685 wm_686 wm_687 ⟨by decide, by decide, by decide +kernel⟩ (by decide), List.forall_mem_cons.mpr ⟨cl_static (y := y_jLat_charAt) c_jLat_charAt_v166 wm_691 wm_12 wm_689 wm_690 ⟨by decide, by decide, by decide +kernel⟩ (by decide), List.forall_mem_cons.mpr ⟨cl_value (i := 11) wm_3969 rfl (by decide +kernel) (by decide +kernel) (by decide +kernel), List.forall_mem_nil _⟩⟩⟩, List.forall_mem_nil _, List.forall_mem_nil _, GG_pl⟩ (by decide +kernel)
def e_jStr_charAt_v167 : en_T := ([(2, 0, 0, [5012]), (0, 0, 16, [])], some (0, 0, 65535, []), true, 4, 0, 0, [], [], (0, [], [], [], []))
def n_jStr_charAt_v167_an : List an_T := []
def t_jStr_charAt_v167_ct : ct_L := [(7, 492, e_jStr_isLatin1_v143), (39, 495, e_jLat_charAt_v168), (1000003, 9, en_ro [(2, 0, 0, [5012])] (2, 0, 0, [5212]))]
set_option maxRecDepth 100000 in
theorem c_jStr_charAt_v167 {l : Launch} {D : va_G} {kA : Nat → ClassId} : ct_ok l D kA GG y_jStr_charAt z_jStr_charAt e_jStr_charAt_v167 := chk_all_ok (FT := []) (PT := []) (CT := t_jStr_charAt_v167_ct) (KT := []) (NT := []) (AN := n_jStr_charAt_v167_an) (OT := []) 0 200 (List.forall_mem_nil _) (by decide +kernel) ⟨List.forall_mem_nil _, List.forall_mem_nil _, List.forall_mem_cons.mpr ⟨cl_stringS (y := y_jStr_isLatin1) (rs := ro_strs) rfl (by decide +kernel) rfl c_jStr_isLatin1_v143 wm_688 wm_11 wm_685 wm_686 wm_687 ⟨by decide, by decide, by decide +kernel⟩ (by decide), List.forall_mem_cons.mpr ⟨cl_static (y := y_jLat_charAt) c_jLat_charAt_v168 wm_691 wm_12 wm_689 wm_690 ⟨by decide, by decide, by decide +kernel⟩ (by decide), List.forall_mem_cons.mpr ⟨cl_value (i := 12) wm_3969 rfl (by decide +kernel) (by decide +kernel) (by decide +kernel), List.forall_mem_nil _⟩⟩⟩, List.forall_mem_nil _, List.forall_mem_nil _, GG_pl⟩ (by decide +kernel)
def e_jStr_charAt_v173 : en_T := ([(2, 0, 0, [5000]), (0, 0, 3, [])], some (0, 0, 65535, []), true, 4, 0, 0, [], [], (0, [], [], [], []))
def n_jStr_charAt_v173_an : List an_T := []
def t_jStr_charAt_v173_ct : ct_L := [(7, 492, e_jStr_isLatin1_v143), (39, 495, e_jLat_charAt_v174), (1000003, 9, en_ro [(2, 0, 0, [5000])] (2, 0, 0, [5200]))]
set_option maxRecDepth 100000 in
theorem c_jStr_charAt_v173 {l : Launch} {D : va_G} {kA : Nat → ClassId} : ct_ok l D kA GG y_jStr_charAt z_jStr_charAt e_jStr_charAt_v173 := chk_all_ok (FT := []) (PT := []) (CT := t_jStr_charAt_v173_ct) (KT := []) (NT := []) (AN := n_jStr_charAt_v173_an) (OT := []) 0 200 (List.forall_mem_nil _) (by decide +kernel) ⟨List.forall_mem_nil _, List.forall_mem_nil _, List.forall_mem_cons.mpr ⟨cl_stringS (y := y_jStr_isLatin1) (rs := ro_strs) rfl (by decide +kernel) rfl c_jStr_isLatin1_v143 wm_688 wm_11 wm_685 wm_686 wm_687 ⟨by decide, by decide, by decide +kernel⟩ (by decide), List.forall_mem_cons.mpr ⟨cl_static (y := y_jLat_charAt) c_jLat_charAt_v174 wm_691 wm_12 wm_689 wm_690 ⟨by decide, by decide, by decide +kernel⟩ (by decide), List.forall_mem_cons.mpr ⟨cl_value (i := 0) wm_3969 rfl (by decide +kernel) (by decide +kernel) (by decide +kernel), List.forall_mem_nil _⟩⟩⟩, List.forall_mem_nil _, List.forall_mem_nil _, GG_pl⟩ (by decide +kernel)
def e_jStr_charAt_v176 : en_T := ([(2, 0, 0, [5001]), (0, 0, 4, [])], some (0, 0, 65535, []), true, 4, 0, 0, [], [], (0, [], [], [], []))
def n_jStr_charAt_v176_an : List an_T := []
def t_jStr_charAt_v176_ct : ct_L := [(7, 492, e_jStr_isLatin1_v143), (39, 495, e_jLat_charAt_v177), (1000003, 9, en_ro [(2, 0, 0, [5001])] (2, 0, 0, [5201]))]
set_option maxRecDepth 100000 in
theorem c_jStr_charAt_v176 {l : Launch} {D : va_G} {kA : Nat → ClassId} : ct_ok l D kA GG y_jStr_charAt z_jStr_charAt e_jStr_charAt_v176 := chk_all_ok (FT := []) (PT := []) (CT := t_jStr_charAt_v176_ct) (KT := []) (NT := []) (AN := n_jStr_charAt_v176_an) (OT := []) 0 200 (List.forall_mem_nil _) (by decide +kernel) ⟨List.forall_mem_nil _, List.forall_mem_nil _, List.forall_mem_cons.mpr ⟨cl_stringS (y := y_jStr_isLatin1) (rs := ro_strs) rfl (by decide +kernel) rfl c_jStr_isLatin1_v143 wm_688 wm_11 wm_685 wm_686 wm_687 ⟨by decide, by decide, by decide +kernel⟩ (by decide), List.forall_mem_cons.mpr ⟨cl_static (y := y_jLat_charAt) c_jLat_charAt_v177 wm_691 wm_12 wm_689 wm_690 ⟨by decide, by decide, by decide +kernel⟩ (by decide), List.forall_mem_cons.mpr ⟨cl_value (i := 1) wm_3969 rfl (by decide +kernel) (by decide +kernel) (by decide +kernel), List.forall_mem_nil _⟩⟩⟩, List.forall_mem_nil _, List.forall_mem_nil _, GG_pl⟩ (by decide +kernel)
def e_jStr_charAt_v181 : en_T := ([(2, 0, 0, [5002]), (0, 0, 3, [])], some (0, 0, 65535, []), true, 4, 0, 0, [], [], (0, [], [], [], []))
def n_jStr_charAt_v181_an : List an_T := []
def t_jStr_charAt_v181_ct : ct_L := [(7, 492, e_jStr_isLatin1_v143), (39, 495, e_jLat_charAt_v182), (1000003, 9, en_ro [(2, 0, 0, [5002])] (2, 0, 0, [5202]))]
set_option maxRecDepth 100000 in
theorem c_jStr_charAt_v181 {l : Launch} {D : va_G} {kA : Nat → ClassId} : ct_ok l D kA GG y_jStr_charAt z_jStr_charAt e_jStr_charAt_v181 := chk_all_ok (FT := []) (PT := []) (CT := t_jStr_charAt_v181_ct) (KT := []) (NT := []) (AN := n_jStr_charAt_v181_an) (OT := []) 0 200 (List.forall_mem_nil _) (by decide +kernel) ⟨List.forall_mem_nil _, List.forall_mem_nil _, List.forall_mem_cons.mpr ⟨cl_stringS (y := y_jStr_isLatin1) (rs := ro_strs) rfl (by decide +kernel) rfl c_jStr_isLatin1_v143 wm_688 wm_11 wm_685 wm_686 wm_687 ⟨by decide, by decide, by decide +kernel⟩ (by decide), List.forall_mem_cons.mpr ⟨cl_static (y := y_jLat_charAt) c_jLat_charAt_v182 wm_691 wm_12 wm_689 wm_690 ⟨by decide, by decide, by decide +kernel⟩ (by decide), List.forall_mem_cons.mpr ⟨cl_value (i := 2) wm_3969 rfl (by decide +kernel) (by decide +kernel) (by decide +kernel), List.forall_mem_nil _⟩⟩⟩, List.forall_mem_nil _, List.forall_mem_nil _, GG_pl⟩ (by decide +kernel)
def e_jStr_charAt_v184 : en_T := ([(2, 0, 0, [5003]), (0, 0, 5, [])], some (0, 0, 65535, []), true, 4, 0, 0, [], [], (0, [], [], [], []))
def n_jStr_charAt_v184_an : List an_T := []
def t_jStr_charAt_v184_ct : ct_L := [(7, 492, e_jStr_isLatin1_v143), (39, 495, e_jLat_charAt_v185), (1000003, 9, en_ro [(2, 0, 0, [5003])] (2, 0, 0, [5203]))]
set_option maxRecDepth 100000 in
theorem c_jStr_charAt_v184 {l : Launch} {D : va_G} {kA : Nat → ClassId} : ct_ok l D kA GG y_jStr_charAt z_jStr_charAt e_jStr_charAt_v184 := chk_all_ok (FT := []) (PT := []) (CT := t_jStr_charAt_v184_ct) (KT := []) (NT := []) (AN := n_jStr_charAt_v184_an) (OT := []) 0 200 (List.forall_mem_nil _) (by decide +kernel) ⟨List.forall_mem_nil _, List.forall_mem_nil _, List.forall_mem_cons.mpr ⟨cl_stringS (y := y_jStr_isLatin1) (rs := ro_strs) rfl (by decide +kernel) rfl c_jStr_isLatin1_v143 wm_688 wm_11 wm_685 wm_686 wm_687 ⟨by decide, by decide, by decide +kernel⟩ (by decide), List.forall_mem_cons.mpr ⟨cl_static (y := y_jLat_charAt) c_jLat_charAt_v185 wm_691 wm_12 wm_689 wm_690 ⟨by decide, by decide, by decide +kernel⟩ (by decide), List.forall_mem_cons.mpr ⟨cl_value (i := 3) wm_3969 rfl (by decide +kernel) (by decide +kernel) (by decide +kernel), List.forall_mem_nil _⟩⟩⟩, List.forall_mem_nil _, List.forall_mem_nil _, GG_pl⟩ (by decide +kernel)
def e_jStr_charAt_v189 : en_T := ([(2, 0, 0, [5013]), (0, 0, 4, [])], some (0, 0, 65535, []), true, 4, 0, 0, [], [], (0, [], [], [], []))
def n_jStr_charAt_v189_an : List an_T := []
def t_jStr_charAt_v189_ct : ct_L := [(7, 492, e_jStr_isLatin1_v143), (39, 495, e_jLat_charAt_v190), (1000003, 9, en_ro [(2, 0, 0, [5013])] (2, 0, 0, [5213]))]
set_option maxRecDepth 100000 in
theorem c_jStr_charAt_v189 {l : Launch} {D : va_G} {kA : Nat → ClassId} : ct_ok l D kA GG y_jStr_charAt z_jStr_charAt e_jStr_charAt_v189 := chk_all_ok (FT := []) (PT := []) (CT := t_jStr_charAt_v189_ct) (KT := []) (NT := []) (AN := n_jStr_charAt_v189_an) (OT := []) 0 200 (List.forall_mem_nil _) (by decide +kernel) ⟨List.forall_mem_nil _, List.forall_mem_nil _, List.forall_mem_cons.mpr ⟨cl_stringS (y := y_jStr_isLatin1) (rs := ro_strs) rfl (by decide +kernel) rfl c_jStr_isLatin1_v143 wm_688 wm_11 wm_685 wm_686 wm_687 ⟨by decide, by decide, by decide +kernel⟩ (by decide), List.forall_mem_cons.mpr ⟨cl_static (y := y_jLat_charAt) c_jLat_charAt_v190 wm_691 wm_12 wm_689 wm_690 ⟨by decide, by decide, by decide +kernel⟩ (by decide), List.forall_mem_cons.mpr ⟨cl_value (i := 13) wm_3969 rfl (by decide +kernel) (by decide +kernel) (by decide +kernel), List.forall_mem_nil _⟩⟩⟩, List.forall_mem_nil _, List.forall_mem_nil _, GG_pl⟩ (by decide +kernel)
def e_jStr_charAt_v192 : en_T := ([(2, 0, 0, [5014]), (0, 0, 6, [])], some (0, 0, 65535, []), true, 4, 0, 0, [], [], (0, [], [], [], []))
def n_jStr_charAt_v192_an : List an_T := []
def t_jStr_charAt_v192_ct : ct_L := [(7, 492, e_jStr_isLatin1_v143), (39, 495, e_jLat_charAt_v193), (1000003, 9, en_ro [(2, 0, 0, [5014])] (2, 0, 0, [5214]))]
set_option maxRecDepth 100000 in
theorem c_jStr_charAt_v192 {l : Launch} {D : va_G} {kA : Nat → ClassId} : ct_ok l D kA GG y_jStr_charAt z_jStr_charAt e_jStr_charAt_v192 := chk_all_ok (FT := []) (PT := []) (CT := t_jStr_charAt_v192_ct) (KT := []) (NT := []) (AN := n_jStr_charAt_v192_an) (OT := []) 0 200 (List.forall_mem_nil _) (by decide +kernel) ⟨List.forall_mem_nil _, List.forall_mem_nil _, List.forall_mem_cons.mpr ⟨cl_stringS (y := y_jStr_isLatin1) (rs := ro_strs) rfl (by decide +kernel) rfl c_jStr_isLatin1_v143 wm_688 wm_11 wm_685 wm_686 wm_687 ⟨by decide, by decide, by decide +kernel⟩ (by decide), List.forall_mem_cons.mpr ⟨cl_static (y := y_jLat_charAt) c_jLat_charAt_v193 wm_691 wm_12 wm_689 wm_690 ⟨by decide, by decide, by decide +kernel⟩ (by decide), List.forall_mem_cons.mpr ⟨cl_value (i := 14) wm_3969 rfl (by decide +kernel) (by decide +kernel) (by decide +kernel), List.forall_mem_nil _⟩⟩⟩, List.forall_mem_nil _, List.forall_mem_nil _, GG_pl⟩ (by decide +kernel)
def e_jStr_charAt_v197 : en_T := ([(2, 0, 0, [5015]), (0, 0, 1, [])], some (0, 0, 65535, []), true, 4, 0, 0, [], [], (0, [], [], [], []))
def n_jStr_charAt_v197_an : List an_T := []
def t_jStr_charAt_v197_ct : ct_L := [(7, 492, e_jStr_isLatin1_v143), (39, 495, e_jLat_charAt_v198), (1000003, 9, en_ro [(2, 0, 0, [5015])] (2, 0, 0, [5215]))]
set_option maxRecDepth 100000 in
theorem c_jStr_charAt_v197 {l : Launch} {D : va_G} {kA : Nat → ClassId} : ct_ok l D kA GG y_jStr_charAt z_jStr_charAt e_jStr_charAt_v197 := chk_all_ok (FT := []) (PT := []) (CT := t_jStr_charAt_v197_ct) (KT := []) (NT := []) (AN := n_jStr_charAt_v197_an) (OT := []) 0 200 (List.forall_mem_nil _) (by decide +kernel) ⟨List.forall_mem_nil _, List.forall_mem_nil _, List.forall_mem_cons.mpr ⟨cl_stringS (y := y_jStr_isLatin1) (rs := ro_strs) rfl (by decide +kernel) rfl c_jStr_isLatin1_v143 wm_688 wm_11 wm_685 wm_686 wm_687 ⟨by decide, by decide, by decide +kernel⟩ (by decide), List.forall_mem_cons.mpr ⟨cl_static (y := y_jLat_charAt) c_jLat_charAt_v198 wm_691 wm_12 wm_689 wm_690 ⟨by decide, by decide, by decide +kernel⟩ (by decide), List.forall_mem_cons.mpr ⟨cl_value (i := 15) wm_3969 rfl (by decide +kernel) (by decide +kernel) (by decide +kernel), List.forall_mem_nil _⟩⟩⟩, List.forall_mem_nil _, List.forall_mem_nil _, GG_pl⟩ (by decide +kernel)
def e_jStr_charAt_v202 : en_T := ([(2, 0, 0, [5016]), (0, 0, 5, [])], some (0, 0, 65535, []), true, 4, 0, 0, [], [], (0, [], [], [], []))
def n_jStr_charAt_v202_an : List an_T := []
def t_jStr_charAt_v202_ct : ct_L := [(7, 492, e_jStr_isLatin1_v143), (39, 495, e_jLat_charAt_v203), (1000003, 9, en_ro [(2, 0, 0, [5016])] (2, 0, 0, [5216]))]
set_option maxRecDepth 100000 in
theorem c_jStr_charAt_v202 {l : Launch} {D : va_G} {kA : Nat → ClassId} : ct_ok l D kA GG y_jStr_charAt z_jStr_charAt e_jStr_charAt_v202 := chk_all_ok (FT := []) (PT := []) (CT := t_jStr_charAt_v202_ct) (KT := []) (NT := []) (AN := n_jStr_charAt_v202_an) (OT := []) 0 200 (List.forall_mem_nil _) (by decide +kernel) ⟨List.forall_mem_nil _, List.forall_mem_nil _, List.forall_mem_cons.mpr ⟨cl_stringS (y := y_jStr_isLatin1) (rs := ro_strs) rfl (by decide +kernel) rfl c_jStr_isLatin1_v143 wm_688 wm_11 wm_685 wm_686 wm_687 ⟨by decide, by decide, by decide +kernel⟩ (by decide), List.forall_mem_cons.mpr ⟨cl_static (y := y_jLat_charAt) c_jLat_charAt_v203 wm_691 wm_12 wm_689 wm_690 ⟨by decide, by decide, by decide +kernel⟩ (by decide), List.forall_mem_cons.mpr ⟨cl_value (i := 16) wm_3969 rfl (by decide +kernel) (by decide +kernel) (by decide +kernel), List.forall_mem_nil _⟩⟩⟩, List.forall_mem_nil _, List.forall_mem_nil _, GG_pl⟩ (by decide +kernel)
def e_jStr_charAt_v205 : en_T := ([(2, 0, 0, [5017]), (0, 0, 2, [])], some (0, 0, 65535, []), true, 4, 0, 0, [], [], (0, [], [], [], []))
def n_jStr_charAt_v205_an : List an_T := []
def t_jStr_charAt_v205_ct : ct_L := [(7, 492, e_jStr_isLatin1_v143), (39, 495, e_jLat_charAt_v206), (1000003, 9, en_ro [(2, 0, 0, [5017])] (2, 0, 0, [5217]))]
set_option maxRecDepth 100000 in
theorem c_jStr_charAt_v205 {l : Launch} {D : va_G} {kA : Nat → ClassId} : ct_ok l D kA GG y_jStr_charAt z_jStr_charAt e_jStr_charAt_v205 := chk_all_ok (FT := []) (PT := []) (CT := t_jStr_charAt_v205_ct) (KT := []) (NT := []) (AN := n_jStr_charAt_v205_an) (OT := []) 0 200 (List.forall_mem_nil _) (by decide +kernel) ⟨List.forall_mem_nil _, List.forall_mem_nil _, List.forall_mem_cons.mpr ⟨cl_stringS (y := y_jStr_isLatin1) (rs := ro_strs) rfl (by decide +kernel) rfl c_jStr_isLatin1_v143 wm_688 wm_11 wm_685 wm_686 wm_687 ⟨by decide, by decide, by decide +kernel⟩ (by decide), List.forall_mem_cons.mpr ⟨cl_static (y := y_jLat_charAt) c_jLat_charAt_v206 wm_691 wm_12 wm_689 wm_690 ⟨by decide, by decide, by decide +kernel⟩ (by decide), List.forall_mem_cons.mpr ⟨cl_value (i := 17) wm_3969 rfl (by decide +kernel) (by decide +kernel) (by decide +kernel), List.forall_mem_nil _⟩⟩⟩, List.forall_mem_nil _, List.forall_mem_nil _, GG_pl⟩ (by decide +kernel)
def e_jStr_charAt_v208 : en_T := ([(2, 0, 0, [5018]), (0, 0, 1, [])], some (0, 0, 65535, []), true, 4, 0, 0, [], [], (0, [], [], [], []))
def n_jStr_charAt_v208_an : List an_T := []
def t_jStr_charAt_v208_ct : ct_L := [(7, 492, e_jStr_isLatin1_v143), (39, 495, e_jLat_charAt_v209), (1000003, 9, en_ro [(2, 0, 0, [5018])] (2, 0, 0, [5218]))]
set_option maxRecDepth 100000 in
theorem c_jStr_charAt_v208 {l : Launch} {D : va_G} {kA : Nat → ClassId} : ct_ok l D kA GG y_jStr_charAt z_jStr_charAt e_jStr_charAt_v208 := chk_all_ok (FT := []) (PT := []) (CT := t_jStr_charAt_v208_ct) (KT := []) (NT := []) (AN := n_jStr_charAt_v208_an) (OT := []) 0 200 (List.forall_mem_nil _) (by decide +kernel) ⟨List.forall_mem_nil _, List.forall_mem_nil _, List.forall_mem_cons.mpr ⟨cl_stringS (y := y_jStr_isLatin1) (rs := ro_strs) rfl (by decide +kernel) rfl c_jStr_isLatin1_v143 wm_688 wm_11 wm_685 wm_686 wm_687 ⟨by decide, by decide, by decide +kernel⟩ (by decide), List.forall_mem_cons.mpr ⟨cl_static (y := y_jLat_charAt) c_jLat_charAt_v209 wm_691 wm_12 wm_689 wm_690 ⟨by decide, by decide, by decide +kernel⟩ (by decide), List.forall_mem_cons.mpr ⟨cl_value (i := 18) wm_3969 rfl (by decide +kernel) (by decide +kernel) (by decide +kernel), List.forall_mem_nil _⟩⟩⟩, List.forall_mem_nil _, List.forall_mem_nil _, GG_pl⟩ (by decide +kernel)
def e_jStr_charAt_v211 : en_T := ([(2, 0, 0, [5019]), (0, 0, 2, [])], some (0, 0, 65535, []), true, 4, 0, 0, [], [], (0, [], [], [], []))
def n_jStr_charAt_v211_an : List an_T := []
def t_jStr_charAt_v211_ct : ct_L := [(7, 492, e_jStr_isLatin1_v143), (39, 495, e_jLat_charAt_v212), (1000003, 9, en_ro [(2, 0, 0, [5019])] (2, 0, 0, [5219]))]
set_option maxRecDepth 100000 in
theorem c_jStr_charAt_v211 {l : Launch} {D : va_G} {kA : Nat → ClassId} : ct_ok l D kA GG y_jStr_charAt z_jStr_charAt e_jStr_charAt_v211 := chk_all_ok (FT := []) (PT := []) (CT := t_jStr_charAt_v211_ct) (KT := []) (NT := []) (AN := n_jStr_charAt_v211_an) (OT := []) 0 200 (List.forall_mem_nil _) (by decide +kernel) ⟨List.forall_mem_nil _, List.forall_mem_nil _, List.forall_mem_cons.mpr ⟨cl_stringS (y := y_jStr_isLatin1) (rs := ro_strs) rfl (by decide +kernel) rfl c_jStr_isLatin1_v143 wm_688 wm_11 wm_685 wm_686 wm_687 ⟨by decide, by decide, by decide +kernel⟩ (by decide), List.forall_mem_cons.mpr ⟨cl_static (y := y_jLat_charAt) c_jLat_charAt_v212 wm_691 wm_12 wm_689 wm_690 ⟨by decide, by decide, by decide +kernel⟩ (by decide), List.forall_mem_cons.mpr ⟨cl_value (i := 19) wm_3969 rfl (by decide +kernel) (by decide +kernel) (by decide +kernel), List.forall_mem_nil _⟩⟩⟩, List.forall_mem_nil _, List.forall_mem_nil _, GG_pl⟩ (by decide +kernel)
def e_jStr_charAt_v214 : en_T := ([(2, 0, 0, [5020]), (0, 0, 2, [])], some (0, 0, 65535, []), true, 4, 0, 0, [], [], (0, [], [], [], []))
def n_jStr_charAt_v214_an : List an_T := []
def t_jStr_charAt_v214_ct : ct_L := [(7, 492, e_jStr_isLatin1_v143), (39, 495, e_jLat_charAt_v215), (1000003, 9, en_ro [(2, 0, 0, [5020])] (2, 0, 0, [5220]))]
set_option maxRecDepth 100000 in
theorem c_jStr_charAt_v214 {l : Launch} {D : va_G} {kA : Nat → ClassId} : ct_ok l D kA GG y_jStr_charAt z_jStr_charAt e_jStr_charAt_v214 := chk_all_ok (FT := []) (PT := []) (CT := t_jStr_charAt_v214_ct) (KT := []) (NT := []) (AN := n_jStr_charAt_v214_an) (OT := []) 0 200 (List.forall_mem_nil _) (by decide +kernel) ⟨List.forall_mem_nil _, List.forall_mem_nil _, List.forall_mem_cons.mpr ⟨cl_stringS (y := y_jStr_isLatin1) (rs := ro_strs) rfl (by decide +kernel) rfl c_jStr_isLatin1_v143 wm_688 wm_11 wm_685 wm_686 wm_687 ⟨by decide, by decide, by decide +kernel⟩ (by decide), List.forall_mem_cons.mpr ⟨cl_static (y := y_jLat_charAt) c_jLat_charAt_v215 wm_691 wm_12 wm_689 wm_690 ⟨by decide, by decide, by decide +kernel⟩ (by decide), List.forall_mem_cons.mpr ⟨cl_value (i := 20) wm_3969 rfl (by decide +kernel) (by decide +kernel) (by decide +kernel), List.forall_mem_nil _⟩⟩⟩, List.forall_mem_nil _, List.forall_mem_nil _, GG_pl⟩ (by decide +kernel)
def e_jStr_charAt_v217 : en_T := ([(2, 0, 0, [5021]), (0, 0, 8, [])], some (0, 0, 65535, []), true, 4, 0, 0, [], [], (0, [], [], [], []))
def n_jStr_charAt_v217_an : List an_T := []
def t_jStr_charAt_v217_ct : ct_L := [(7, 492, e_jStr_isLatin1_v143), (39, 495, e_jLat_charAt_v218), (1000003, 9, en_ro [(2, 0, 0, [5021])] (2, 0, 0, [5221]))]
set_option maxRecDepth 100000 in
theorem c_jStr_charAt_v217 {l : Launch} {D : va_G} {kA : Nat → ClassId} : ct_ok l D kA GG y_jStr_charAt z_jStr_charAt e_jStr_charAt_v217 := chk_all_ok (FT := []) (PT := []) (CT := t_jStr_charAt_v217_ct) (KT := []) (NT := []) (AN := n_jStr_charAt_v217_an) (OT := []) 0 200 (List.forall_mem_nil _) (by decide +kernel) ⟨List.forall_mem_nil _, List.forall_mem_nil _, List.forall_mem_cons.mpr ⟨cl_stringS (y := y_jStr_isLatin1) (rs := ro_strs) rfl (by decide +kernel) rfl c_jStr_isLatin1_v143 wm_688 wm_11 wm_685 wm_686 wm_687 ⟨by decide, by decide, by decide +kernel⟩ (by decide), List.forall_mem_cons.mpr ⟨cl_static (y := y_jLat_charAt) c_jLat_charAt_v218 wm_691 wm_12 wm_689 wm_690 ⟨by decide, by decide, by decide +kernel⟩ (by decide), List.forall_mem_cons.mpr ⟨cl_value (i := 21) wm_3969 rfl (by decide +kernel) (by decide +kernel) (by decide +kernel), List.forall_mem_nil _⟩⟩⟩, List.forall_mem_nil _, List.forall_mem_nil _, GG_pl⟩ (by decide +kernel)
def e_jStr_indexOf1_v221 : en_T := ([(2, 0, 0, [5005]), (0, 0, 65535, [])], some (0, -1, 13, []), true, 4, 0, 0, [], [], (0, [], [], [], []))
def n_jStr_indexOf1_v221_an : List an_T := []
def t_jStr_indexOf1_v221_ct : ct_L := [(13, 633, e_jStr_indexOf2_v222)]
set_option maxRecDepth 100000 in
theorem c_jStr_indexOf1_v221 {l : Launch} {D : va_G} {kA : Nat → ClassId} : ct_ok l D kA GG y_jStr_indexOf1 z_jStr_indexOf1 e_jStr_indexOf1_v221 := chk_all_ok (FT := []) (PT := []) (CT := t_jStr_indexOf1_v221_ct) (KT := []) (NT := []) (AN := n_jStr_indexOf1_v221_an) (OT := []) 0 200 (List.forall_mem_nil _) (by decide +kernel) ⟨List.forall_mem_nil _, List.forall_mem_nil _, List.forall_mem_cons.mpr ⟨cl_string (y := y_jStr_indexOf2) (i := 5) rfl rfl (by decide +kernel) rfl c_jStr_indexOf2_v222 wm_2173 wm_11 wm_2170 wm_2171 wm_2172 ⟨by decide, by decide, by decide +kernel⟩ (by decide), List.forall_mem_nil _⟩, List.forall_mem_nil _, List.forall_mem_nil _, GG_pl⟩ (by decide +kernel)
def e_jStr_charAt_v237 : en_T := ([(2, 0, 0, [5022]), (0, 0, 3, [])], some (0, 0, 65535, []), true, 4, 0, 0, [], [], (0, [], [], [], []))
def n_jStr_charAt_v237_an : List an_T := []
def t_jStr_charAt_v237_ct : ct_L := [(7, 492, e_jStr_isLatin1_v143), (39, 495, e_jLat_charAt_v238), (1000003, 9, en_ro [(2, 0, 0, [5022])] (2, 0, 0, [5222]))]
set_option maxRecDepth 100000 in
theorem c_jStr_charAt_v237 {l : Launch} {D : va_G} {kA : Nat → ClassId} : ct_ok l D kA GG y_jStr_charAt z_jStr_charAt e_jStr_charAt_v237 := chk_all_ok (FT := []) (PT := []) (CT := t_jStr_charAt_v237_ct) (KT := []) (NT := []) (AN := n_jStr_charAt_v237_an) (OT := []) 0 200 (List.forall_mem_nil _) (by decide +kernel) ⟨List.forall_mem_nil _, List.forall_mem_nil _, List.forall_mem_cons.mpr ⟨cl_stringS (y := y_jStr_isLatin1) (rs := ro_strs) rfl (by decide +kernel) rfl c_jStr_isLatin1_v143 wm_688 wm_11 wm_685 wm_686 wm_687 ⟨by decide, by decide, by decide +kernel⟩ (by decide), List.forall_mem_cons.mpr ⟨cl_static (y := y_jLat_charAt) c_jLat_charAt_v238 wm_691 wm_12 wm_689 wm_690 ⟨by decide, by decide, by decide +kernel⟩ (by decide), List.forall_mem_cons.mpr ⟨cl_value (i := 22) wm_3969 rfl (by decide +kernel) (by decide +kernel) (by decide +kernel), List.forall_mem_nil _⟩⟩⟩, List.forall_mem_nil _, List.forall_mem_nil _, GG_pl⟩ (by decide +kernel)
def e_jStr_charAt_v240 : en_T := ([(2, 0, 0, [5023]), (0, 0, 1, [])], some (0, 0, 65535, []), true, 4, 0, 0, [], [], (0, [], [], [], []))
def n_jStr_charAt_v240_an : List an_T := []
def t_jStr_charAt_v240_ct : ct_L := [(7, 492, e_jStr_isLatin1_v143), (39, 495, e_jLat_charAt_v241), (1000003, 9, en_ro [(2, 0, 0, [5023])] (2, 0, 0, [5223]))]
set_option maxRecDepth 100000 in
theorem c_jStr_charAt_v240 {l : Launch} {D : va_G} {kA : Nat → ClassId} : ct_ok l D kA GG y_jStr_charAt z_jStr_charAt e_jStr_charAt_v240 := chk_all_ok (FT := []) (PT := []) (CT := t_jStr_charAt_v240_ct) (KT := []) (NT := []) (AN := n_jStr_charAt_v240_an) (OT := []) 0 200 (List.forall_mem_nil _) (by decide +kernel) ⟨List.forall_mem_nil _, List.forall_mem_nil _, List.forall_mem_cons.mpr ⟨cl_stringS (y := y_jStr_isLatin1) (rs := ro_strs) rfl (by decide +kernel) rfl c_jStr_isLatin1_v143 wm_688 wm_11 wm_685 wm_686 wm_687 ⟨by decide, by decide, by decide +kernel⟩ (by decide), List.forall_mem_cons.mpr ⟨cl_static (y := y_jLat_charAt) c_jLat_charAt_v241 wm_691 wm_12 wm_689 wm_690 ⟨by decide, by decide, by decide +kernel⟩ (by decide), List.forall_mem_cons.mpr ⟨cl_value (i := 23) wm_3969 rfl (by decide +kernel) (by decide +kernel) (by decide +kernel), List.forall_mem_nil _⟩⟩⟩, List.forall_mem_nil _, List.forall_mem_nil _, GG_pl⟩ (by decide +kernel)
def e_jStr_charAt_v243 : en_T := ([(2, 0, 0, [5024]), (0, 0, 2, [])], some (0, 0, 65535, []), true, 4, 0, 0, [], [], (0, [], [], [], []))
def n_jStr_charAt_v243_an : List an_T := []
def t_jStr_charAt_v243_ct : ct_L := [(7, 492, e_jStr_isLatin1_v143), (39, 495, e_jLat_charAt_v244), (1000003, 9, en_ro [(2, 0, 0, [5024])] (2, 0, 0, [5224]))]
set_option maxRecDepth 100000 in
theorem c_jStr_charAt_v243 {l : Launch} {D : va_G} {kA : Nat → ClassId} : ct_ok l D kA GG y_jStr_charAt z_jStr_charAt e_jStr_charAt_v243 := chk_all_ok (FT := []) (PT := []) (CT := t_jStr_charAt_v243_ct) (KT := []) (NT := []) (AN := n_jStr_charAt_v243_an) (OT := []) 0 200 (List.forall_mem_nil _) (by decide +kernel) ⟨List.forall_mem_nil _, List.forall_mem_nil _, List.forall_mem_cons.mpr ⟨cl_stringS (y := y_jStr_isLatin1) (rs := ro_strs) rfl (by decide +kernel) rfl c_jStr_isLatin1_v143 wm_688 wm_11 wm_685 wm_686 wm_687 ⟨by decide, by decide, by decide +kernel⟩ (by decide), List.forall_mem_cons.mpr ⟨cl_static (y := y_jLat_charAt) c_jLat_charAt_v244 wm_691 wm_12 wm_689 wm_690 ⟨by decide, by decide, by decide +kernel⟩ (by decide), List.forall_mem_cons.mpr ⟨cl_value (i := 24) wm_3969 rfl (by decide +kernel) (by decide +kernel) (by decide +kernel), List.forall_mem_nil _⟩⟩⟩, List.forall_mem_nil _, List.forall_mem_nil _, GG_pl⟩ (by decide +kernel)
def e_jStr_charAt_v246 : en_T := ([(2, 0, 0, [5025]), (0, 0, 2, [])], some (0, 0, 65535, []), true, 4, 0, 0, [], [], (0, [], [], [], []))
def n_jStr_charAt_v246_an : List an_T := []
def t_jStr_charAt_v246_ct : ct_L := [(7, 492, e_jStr_isLatin1_v143), (39, 495, e_jLat_charAt_v247), (1000003, 9, en_ro [(2, 0, 0, [5025])] (2, 0, 0, [5225]))]
set_option maxRecDepth 100000 in
theorem c_jStr_charAt_v246 {l : Launch} {D : va_G} {kA : Nat → ClassId} : ct_ok l D kA GG y_jStr_charAt z_jStr_charAt e_jStr_charAt_v246 := chk_all_ok (FT := []) (PT := []) (CT := t_jStr_charAt_v246_ct) (KT := []) (NT := []) (AN := n_jStr_charAt_v246_an) (OT := []) 0 200 (List.forall_mem_nil _) (by decide +kernel) ⟨List.forall_mem_nil _, List.forall_mem_nil _, List.forall_mem_cons.mpr ⟨cl_stringS (y := y_jStr_isLatin1) (rs := ro_strs) rfl (by decide +kernel) rfl c_jStr_isLatin1_v143 wm_688 wm_11 wm_685 wm_686 wm_687 ⟨by decide, by decide, by decide +kernel⟩ (by decide), List.forall_mem_cons.mpr ⟨cl_static (y := y_jLat_charAt) c_jLat_charAt_v247 wm_691 wm_12 wm_689 wm_690 ⟨by decide, by decide, by decide +kernel⟩ (by decide), List.forall_mem_cons.mpr ⟨cl_value (i := 25) wm_3969 rfl (by decide +kernel) (by decide +kernel) (by decide +kernel), List.forall_mem_nil _⟩⟩⟩, List.forall_mem_nil _, List.forall_mem_nil _, GG_pl⟩ (by decide +kernel)
def e_jStr_charAt_v249 : en_T := ([(2, 0, 0, [5026]), (0, 0, 1, [])], some (0, 0, 65535, []), true, 4, 0, 0, [], [], (0, [], [], [], []))
def n_jStr_charAt_v249_an : List an_T := []
def t_jStr_charAt_v249_ct : ct_L := [(7, 492, e_jStr_isLatin1_v143), (39, 495, e_jLat_charAt_v250), (1000003, 9, en_ro [(2, 0, 0, [5026])] (2, 0, 0, [5226]))]
set_option maxRecDepth 100000 in
theorem c_jStr_charAt_v249 {l : Launch} {D : va_G} {kA : Nat → ClassId} : ct_ok l D kA GG y_jStr_charAt z_jStr_charAt e_jStr_charAt_v249 := chk_all_ok (FT := []) (PT := []) (CT := t_jStr_charAt_v249_ct) (KT := []) (NT := []) (AN := n_jStr_charAt_v249_an) (OT := []) 0 200 (List.forall_mem_nil _) (by decide +kernel) ⟨List.forall_mem_nil _, List.forall_mem_nil _, List.forall_mem_cons.mpr ⟨cl_stringS (y := y_jStr_isLatin1) (rs := ro_strs) rfl (by decide +kernel) rfl c_jStr_isLatin1_v143 wm_688 wm_11 wm_685 wm_686 wm_687 ⟨by decide, by decide, by decide +kernel⟩ (by decide), List.forall_mem_cons.mpr ⟨cl_static (y := y_jLat_charAt) c_jLat_charAt_v250 wm_691 wm_12 wm_689 wm_690 ⟨by decide, by decide, by decide +kernel⟩ (by decide), List.forall_mem_cons.mpr ⟨cl_value (i := 26) wm_3969 rfl (by decide +kernel) (by decide +kernel) (by decide +kernel), List.forall_mem_nil _⟩⟩⟩, List.forall_mem_nil _, List.forall_mem_nil _, GG_pl⟩ (by decide +kernel)
def e_jStr_charAt_v252 : en_T := ([(2, 0, 0, [5027]), (0, 0, 2, [])], some (0, 0, 65535, []), true, 4, 0, 0, [], [], (0, [], [], [], []))
def n_jStr_charAt_v252_an : List an_T := []
def t_jStr_charAt_v252_ct : ct_L := [(7, 492, e_jStr_isLatin1_v143), (39, 495, e_jLat_charAt_v253), (1000003, 9, en_ro [(2, 0, 0, [5027])] (2, 0, 0, [5227]))]
set_option maxRecDepth 100000 in
theorem c_jStr_charAt_v252 {l : Launch} {D : va_G} {kA : Nat → ClassId} : ct_ok l D kA GG y_jStr_charAt z_jStr_charAt e_jStr_charAt_v252 := chk_all_ok (FT := []) (PT := []) (CT := t_jStr_charAt_v252_ct) (KT := []) (NT := []) (AN := n_jStr_charAt_v252_an) (OT := []) 0 200 (List.forall_mem_nil _) (by decide +kernel) ⟨List.forall_mem_nil _, List.forall_mem_nil _, List.forall_mem_cons.mpr ⟨cl_stringS (y := y_jStr_isLatin1) (rs := ro_strs) rfl (by decide +kernel) rfl c_jStr_isLatin1_v143 wm_688 wm_11 wm_685 wm_686 wm_687 ⟨by decide, by decide, by decide +kernel⟩ (by decide), List.forall_mem_cons.mpr ⟨cl_static (y := y_jLat_charAt) c_jLat_charAt_v253 wm_691 wm_12 wm_689 wm_690 ⟨by decide, by decide, by decide +kernel⟩ (by decide), List.forall_mem_cons.mpr ⟨cl_value (i := 27) wm_3969 rfl (by decide +kernel) (by decide +kernel) (by decide +kernel), List.forall_mem_nil _⟩⟩⟩, List.forall_mem_nil _, List.forall_mem_nil _, GG_pl⟩ (by decide +kernel)
def e_jStr_charAt_v255 : en_T := ([(2, 0, 0, [5028]), (0, 0, 2, [])], some (0, 0, 65535, []), true, 4, 0, 0, [], [], (0, [], [], [], []))
def n_jStr_charAt_v255_an : List an_T := []
def t_jStr_charAt_v255_ct : ct_L := [(7, 492, e_jStr_isLatin1_v143), (39, 495, e_jLat_charAt_v256), (1000003, 9, en_ro [(2, 0, 0, [5028])] (2, 0, 0, [5228]))]
set_option maxRecDepth 100000 in
theorem c_jStr_charAt_v255 {l : Launch} {D : va_G} {kA : Nat → ClassId} : ct_ok l D kA GG y_jStr_charAt z_jStr_charAt e_jStr_charAt_v255 := chk_all_ok (FT := []) (PT := []) (CT := t_jStr_charAt_v255_ct) (KT := []) (NT := []) (AN := n_jStr_charAt_v255_an) (OT := []) 0 200 (List.forall_mem_nil _) (by decide +kernel) ⟨List.forall_mem_nil _, List.forall_mem_nil _, List.forall_mem_cons.mpr ⟨cl_stringS (y := y_jStr_isLatin1) (rs := ro_strs) rfl (by decide +kernel) rfl c_jStr_isLatin1_v143 wm_688 wm_11 wm_685 wm_686 wm_687 ⟨by decide, by decide, by decide +kernel⟩ (by decide), List.forall_mem_cons.mpr ⟨cl_static (y := y_jLat_charAt) c_jLat_charAt_v256 wm_691 wm_12 wm_689 wm_690 ⟨by decide, by decide, by decide +kernel⟩ (by decide), List.forall_mem_cons.mpr ⟨cl_value (i := 28) wm_3969 rfl (by decide +kernel) (by decide +kernel) (by decide +kernel), List.forall_mem_nil _⟩⟩⟩, List.forall_mem_nil _, List.forall_mem_nil _, GG_pl⟩ (by decide +kernel)
def e_jStr_charAt_v258 : en_T := ([(2, 0, 0, [5029]), (0, 0, 3, [])], some (0, 0, 65535, []), true, 4, 0, 0, [], [], (0, [], [], [], []))
def n_jStr_charAt_v258_an : List an_T := []
def t_jStr_charAt_v258_ct : ct_L := [(7, 492, e_jStr_isLatin1_v143), (39, 495, e_jLat_charAt_v259), (1000003, 9, en_ro [(2, 0, 0, [5029])] (2, 0, 0, [5229]))]
set_option maxRecDepth 100000 in
theorem c_jStr_charAt_v258 {l : Launch} {D : va_G} {kA : Nat → ClassId} : ct_ok l D kA GG y_jStr_charAt z_jStr_charAt e_jStr_charAt_v258 := chk_all_ok (FT := []) (PT := []) (CT := t_jStr_charAt_v258_ct) (KT := []) (NT := []) (AN := n_jStr_charAt_v258_an) (OT := []) 0 200 (List.forall_mem_nil _) (by decide +kernel) ⟨List.forall_mem_nil _, List.forall_mem_nil _, List.forall_mem_cons.mpr ⟨cl_stringS (y := y_jStr_isLatin1) (rs := ro_strs) rfl (by decide +kernel) rfl c_jStr_isLatin1_v143 wm_688 wm_11 wm_685 wm_686 wm_687 ⟨by decide, by decide, by decide +kernel⟩ (by decide), List.forall_mem_cons.mpr ⟨cl_static (y := y_jLat_charAt) c_jLat_charAt_v259 wm_691 wm_12 wm_689 wm_690 ⟨by decide, by decide, by decide +kernel⟩ (by decide), List.forall_mem_cons.mpr ⟨cl_value (i := 29) wm_3969 rfl (by decide +kernel) (by decide +kernel) (by decide +kernel), List.forall_mem_nil _⟩⟩⟩, List.forall_mem_nil _, List.forall_mem_nil _, GG_pl⟩ (by decide +kernel)
def e_jStr_charAt_v261 : en_T := ([(2, 0, 0, [5030]), (0, 0, 2, [])], some (0, 0, 65535, []), true, 4, 0, 0, [], [], (0, [], [], [], []))
def n_jStr_charAt_v261_an : List an_T := []
def t_jStr_charAt_v261_ct : ct_L := [(7, 492, e_jStr_isLatin1_v143), (39, 495, e_jLat_charAt_v262), (1000003, 9, en_ro [(2, 0, 0, [5030])] (2, 0, 0, [5230]))]
set_option maxRecDepth 100000 in
theorem c_jStr_charAt_v261 {l : Launch} {D : va_G} {kA : Nat → ClassId} : ct_ok l D kA GG y_jStr_charAt z_jStr_charAt e_jStr_charAt_v261 := chk_all_ok (FT := []) (PT := []) (CT := t_jStr_charAt_v261_ct) (KT := []) (NT := []) (AN := n_jStr_charAt_v261_an) (OT := []) 0 200 (List.forall_mem_nil _) (by decide +kernel) ⟨List.forall_mem_nil _, List.forall_mem_nil _, List.forall_mem_cons.mpr ⟨cl_stringS (y := y_jStr_isLatin1) (rs := ro_strs) rfl (by decide +kernel) rfl c_jStr_isLatin1_v143 wm_688 wm_11 wm_685 wm_686 wm_687 ⟨by decide, by decide, by decide +kernel⟩ (by decide), List.forall_mem_cons.mpr ⟨cl_static (y := y_jLat_charAt) c_jLat_charAt_v262 wm_691 wm_12 wm_689 wm_690 ⟨by decide, by decide, by decide +kernel⟩ (by decide), List.forall_mem_cons.mpr ⟨cl_value (i := 30) wm_3969 rfl (by decide +kernel) (by decide +kernel) (by decide +kernel), List.forall_mem_nil _⟩⟩⟩, List.forall_mem_nil _, List.forall_mem_nil _, GG_pl⟩ (by decide +kernel)
def e_jStr_charAt_v264 : en_T := ([(2, 0, 0, [5031]), (0, 0, 0, [])], some (0, 0, 65535, []), true, 4, 0, 0, [], [], (0, [], [], [], []))
def n_jStr_charAt_v264_an : List an_T := []
def t_jStr_charAt_v264_ct : ct_L := [(7, 492, e_jStr_isLatin1_v143), (39, 495, e_jLat_charAt_v265), (1000003, 9, en_ro [(2, 0, 0, [5031])] (2, 0, 0, [5231]))]
set_option maxRecDepth 100000 in
theorem c_jStr_charAt_v264 {l : Launch} {D : va_G} {kA : Nat → ClassId} : ct_ok l D kA GG y_jStr_charAt z_jStr_charAt e_jStr_charAt_v264 := chk_all_ok (FT := []) (PT := []) (CT := t_jStr_charAt_v264_ct) (KT := []) (NT := []) (AN := n_jStr_charAt_v264_an) (OT := []) 0 200 (List.forall_mem_nil _) (by decide +kernel) ⟨List.forall_mem_nil _, List.forall_mem_nil _, List.forall_mem_cons.mpr ⟨cl_stringS (y := y_jStr_isLatin1) (rs := ro_strs) rfl (by decide +kernel) rfl c_jStr_isLatin1_v143 wm_688 wm_11 wm_685 wm_686 wm_687 ⟨by decide, by decide, by decide +kernel⟩ (by decide), List.forall_mem_cons.mpr ⟨cl_static (y := y_jLat_charAt) c_jLat_charAt_v265 wm_691 wm_12 wm_689 wm_690 ⟨by decide, by decide, by decide +kernel⟩ (by decide), List.forall_mem_cons.mpr ⟨cl_value (i := 31) wm_3969 rfl (by decide +kernel) (by decide +kernel) (by decide +kernel), List.forall_mem_nil _⟩⟩⟩, List.forall_mem_nil _, List.forall_mem_nil _, GG_pl⟩ (by decide +kernel)
def e_jStr_charAt_v269 : en_T := ([(2, 0, 0, [5032]), (0, 0, 0, [])], some (0, 0, 65535, []), true, 4, 0, 0, [], [], (0, [], [], [], []))
def n_jStr_charAt_v269_an : List an_T := []
def t_jStr_charAt_v269_ct : ct_L := [(7, 492, e_jStr_isLatin1_v143), (39, 495, e_jLat_charAt_v270), (1000003, 9, en_ro [(2, 0, 0, [5032])] (2, 0, 0, [5232]))]
set_option maxRecDepth 100000 in
theorem c_jStr_charAt_v269 {l : Launch} {D : va_G} {kA : Nat → ClassId} : ct_ok l D kA GG y_jStr_charAt z_jStr_charAt e_jStr_charAt_v269 := chk_all_ok (FT := []) (PT := []) (CT := t_jStr_charAt_v269_ct) (KT := []) (NT := []) (AN := n_jStr_charAt_v269_an) (OT := []) 0 200 (List.forall_mem_nil _) (by decide +kernel) ⟨List.forall_mem_nil _, List.forall_mem_nil _, List.forall_mem_cons.mpr ⟨cl_stringS (y := y_jStr_isLatin1) (rs := ro_strs) rfl (by decide +kernel) rfl c_jStr_isLatin1_v143 wm_688 wm_11 wm_685 wm_686 wm_687 ⟨by decide, by decide, by decide +kernel⟩ (by decide), List.forall_mem_cons.mpr ⟨cl_static (y := y_jLat_charAt) c_jLat_charAt_v270 wm_691 wm_12 wm_689 wm_690 ⟨by decide, by decide, by decide +kernel⟩ (by decide), List.forall_mem_cons.mpr ⟨cl_value (i := 32) wm_3969 rfl (by decide +kernel) (by decide +kernel) (by decide +kernel), List.forall_mem_nil _⟩⟩⟩, List.forall_mem_nil _, List.forall_mem_nil _, GG_pl⟩ (by decide +kernel)
def e_jStr_charAt_v272 : en_T := ([(2, 0, 0, [5033]), (0, 0, 5, [])], some (0, 0, 65535, []), true, 4, 0, 0, [], [], (0, [], [], [], []))
def n_jStr_charAt_v272_an : List an_T := []
def t_jStr_charAt_v272_ct : ct_L := [(7, 492, e_jStr_isLatin1_v143), (39, 495, e_jLat_charAt_v273), (1000003, 9, en_ro [(2, 0, 0, [5033])] (2, 0, 0, [5233]))]
set_option maxRecDepth 100000 in
theorem c_jStr_charAt_v272 {l : Launch} {D : va_G} {kA : Nat → ClassId} : ct_ok l D kA GG y_jStr_charAt z_jStr_charAt e_jStr_charAt_v272 := chk_all_ok (FT := []) (PT := []) (CT := t_jStr_charAt_v272_ct) (KT := []) (NT := []) (AN := n_jStr_charAt_v272_an) (OT := []) 0 200 (List.forall_mem_nil _) (by decide +kernel) ⟨List.forall_mem_nil _, List.forall_mem_nil _, List.forall_mem_cons.mpr ⟨cl_stringS (y := y_jStr_isLatin1) (rs := ro_strs) rfl (by decide +kernel) rfl c_jStr_isLatin1_v143 wm_688 wm_11 wm_685 wm_686 wm_687 ⟨by decide, by decide, by decide +kernel⟩ (by decide), List.forall_mem_cons.mpr ⟨cl_static (y := y_jLat_charAt) c_jLat_charAt_v273 wm_691 wm_12 wm_689 wm_690 ⟨by decide, by decide, by decide +kernel⟩ (by decide), List.forall_mem_cons.mpr ⟨cl_value (i := 33) wm_3969 rfl (by decide +kernel) (by decide +kernel) (by decide +kernel), List.forall_mem_nil _⟩⟩⟩, List.forall_mem_nil _, List.forall_mem_nil _, GG_pl⟩ (by decide +kernel)
def e_jStr_charAt_v275 : en_T := ([(2, 0, 0, [5034]), (0, 0, 5, [])], some (0, 0, 65535, []), true, 4, 0, 0, [], [], (0, [], [], [], []))
def n_jStr_charAt_v275_an : List an_T := []
def t_jStr_charAt_v275_ct : ct_L := [(7, 492, e_jStr_isLatin1_v143), (39, 495, e_jLat_charAt_v276), (1000003, 9, en_ro [(2, 0, 0, [5034])] (2, 0, 0, [5234]))]
set_option maxRecDepth 100000 in
theorem c_jStr_charAt_v275 {l : Launch} {D : va_G} {kA : Nat → ClassId} : ct_ok l D kA GG y_jStr_charAt z_jStr_charAt e_jStr_charAt_v275 := chk_all_ok (FT := []) (PT := []) (CT := t_jStr_charAt_v275_ct) (KT := []) (NT := []) (AN := n_jStr_charAt_v275_an) (OT := []) 0 200 (List.forall_mem_nil _) (by decide +kernel) ⟨List.forall_mem_nil _, List.forall_mem_nil _, List.forall_mem_cons.mpr ⟨cl_stringS (y := y_jStr_isLatin1) (rs := ro_strs) rfl (by decide +kernel) rfl c_jStr_isLatin1_v143 wm_688 wm_11 wm_685 wm_686 wm_687 ⟨by decide, by decide, by decide +kernel⟩ (by decide), List.forall_mem_cons.mpr ⟨cl_static (y := y_jLat_charAt) c_jLat_charAt_v276 wm_691 wm_12 wm_689 wm_690 ⟨by decide, by decide, by decide +kernel⟩ (by decide), List.forall_mem_cons.mpr ⟨cl_value (i := 34) wm_3969 rfl (by decide +kernel) (by decide +kernel) (by decide +kernel), List.forall_mem_nil _⟩⟩⟩, List.forall_mem_nil _, List.forall_mem_nil _, GG_pl⟩ (by decide +kernel)
def e_jStr_charAt_v278 : en_T := ([(2, 0, 0, [5035]), (0, 0, 3, [])], some (0, 0, 65535, []), true, 4, 0, 0, [], [], (0, [], [], [], []))
def n_jStr_charAt_v278_an : List an_T := []
def t_jStr_charAt_v278_ct : ct_L := [(7, 492, e_jStr_isLatin1_v143), (39, 495, e_jLat_charAt_v279), (1000003, 9, en_ro [(2, 0, 0, [5035])] (2, 0, 0, [5235]))]
set_option maxRecDepth 100000 in
theorem c_jStr_charAt_v278 {l : Launch} {D : va_G} {kA : Nat → ClassId} : ct_ok l D kA GG y_jStr_charAt z_jStr_charAt e_jStr_charAt_v278 := chk_all_ok (FT := []) (PT := []) (CT := t_jStr_charAt_v278_ct) (KT := []) (NT := []) (AN := n_jStr_charAt_v278_an) (OT := []) 0 200 (List.forall_mem_nil _) (by decide +kernel) ⟨List.forall_mem_nil _, List.forall_mem_nil _, List.forall_mem_cons.mpr ⟨cl_stringS (y := y_jStr_isLatin1) (rs := ro_strs) rfl (by decide +kernel) rfl c_jStr_isLatin1_v143 wm_688 wm_11 wm_685 wm_686 wm_687 ⟨by decide, by decide, by decide +kernel⟩ (by decide), List.forall_mem_cons.mpr ⟨cl_static (y := y_jLat_charAt) c_jLat_charAt_v279 wm_691 wm_12 wm_689 wm_690 ⟨by decide, by decide, by decide +kernel⟩ (by decide), List.forall_mem_cons.mpr ⟨cl_value (i := 35) wm_3969 rfl (by decide +kernel) (by decide +kernel) (by decide +kernel), List.forall_mem_nil _⟩⟩⟩, List.forall_mem_nil _, List.forall_mem_nil _, GG_pl⟩ (by decide +kernel)
def e_jStr_charAt_v281 : en_T := ([(2, 0, 0, [5036]), (0, 0, 1, [])], some (0, 0, 65535, []), true, 4, 0, 0, [], [], (0, [], [], [], []))
def n_jStr_charAt_v281_an : List an_T := []
def t_jStr_charAt_v281_ct : ct_L := [(7, 492, e_jStr_isLatin1_v143), (39, 495, e_jLat_charAt_v282), (1000003, 9, en_ro [(2, 0, 0, [5036])] (2, 0, 0, [5236]))]
set_option maxRecDepth 100000 in
theorem c_jStr_charAt_v281 {l : Launch} {D : va_G} {kA : Nat → ClassId} : ct_ok l D kA GG y_jStr_charAt z_jStr_charAt e_jStr_charAt_v281 := chk_all_ok (FT := []) (PT := []) (CT := t_jStr_charAt_v281_ct) (KT := []) (NT := []) (AN := n_jStr_charAt_v281_an) (OT := []) 0 200 (List.forall_mem_nil _) (by decide +kernel) ⟨List.forall_mem_nil _, List.forall_mem_nil _, List.forall_mem_cons.mpr ⟨cl_stringS (y := y_jStr_isLatin1) (rs := ro_strs) rfl (by decide +kernel) rfl c_jStr_isLatin1_v143 wm_688 wm_11 wm_685 wm_686 wm_687 ⟨by decide, by decide, by decide +kernel⟩ (by decide), List.forall_mem_cons.mpr ⟨cl_static (y := y_jLat_charAt) c_jLat_charAt_v282 wm_691 wm_12 wm_689 wm_690 ⟨by decide, by decide, by decide +kernel⟩ (by decide), List.forall_mem_cons.mpr ⟨cl_value (i := 36) wm_3969 rfl (by decide +kernel) (by decide +kernel) (by decide +kernel), List.forall_mem_nil _⟩⟩⟩, List.forall_mem_nil _, List.forall_mem_nil _, GG_pl⟩ (by decide +kernel)
def e_jStr_charAt_v284 : en_T := ([(2, 0, 0, [5037]), (0, 0, 4, [])], some (0, 0, 65535, []), true, 4, 0, 0, [], [], (0, [], [], [], []))
def n_jStr_charAt_v284_an : List an_T := []
def t_jStr_charAt_v284_ct : ct_L := [(7, 492, e_jStr_isLatin1_v143), (39, 495, e_jLat_charAt_v285), (1000003, 9, en_ro [(2, 0, 0, [5037])] (2, 0, 0, [5237]))]
set_option maxRecDepth 100000 in
theorem c_jStr_charAt_v284 {l : Launch} {D : va_G} {kA : Nat → ClassId} : ct_ok l D kA GG y_jStr_charAt z_jStr_charAt e_jStr_charAt_v284 := chk_all_ok (FT := []) (PT := []) (CT := t_jStr_charAt_v284_ct) (KT := []) (NT := []) (AN := n_jStr_charAt_v284_an) (OT := []) 0 200 (List.forall_mem_nil _) (by decide +kernel) ⟨List.forall_mem_nil _, List.forall_mem_nil _, List.forall_mem_cons.mpr ⟨cl_stringS (y := y_jStr_isLatin1) (rs := ro_strs) rfl (by decide +kernel) rfl c_jStr_isLatin1_v143 wm_688 wm_11 wm_685 wm_686 wm_687 ⟨by decide, by decide, by decide +kernel⟩ (by decide), List.forall_mem_cons.mpr ⟨cl_static (y := y_jLat_charAt) c_jLat_charAt_v285 wm_691 wm_12 wm_689 wm_690 ⟨by decide, by decide, by decide +kernel⟩ (by decide), List.forall_mem_cons.mpr ⟨cl_value (i := 37) wm_3969 rfl (by decide +kernel) (by decide +kernel) (by decide +kernel), List.forall_mem_nil _⟩⟩⟩, List.forall_mem_nil _, List.forall_mem_nil _, GG_pl⟩ (by decide +kernel)
def e_jStr_charAt_v287 : en_T := ([(2, 0, 0, [5038]), (0, 0, 3, [])], some (0, 0, 65535, []), true, 4, 0, 0, [], [], (0, [], [], [], []))
def n_jStr_charAt_v287_an : List an_T := []
def t_jStr_charAt_v287_ct : ct_L := [(7, 492, e_jStr_isLatin1_v143), (39, 495, e_jLat_charAt_v288), (1000003, 9, en_ro [(2, 0, 0, [5038])] (2, 0, 0, [5238]))]
set_option maxRecDepth 100000 in
theorem c_jStr_charAt_v287 {l : Launch} {D : va_G} {kA : Nat → ClassId} : ct_ok l D kA GG y_jStr_charAt z_jStr_charAt e_jStr_charAt_v287 := chk_all_ok (FT := []) (PT := []) (CT := t_jStr_charAt_v287_ct) (KT := []) (NT := []) (AN := n_jStr_charAt_v287_an) (OT := []) 0 200 (List.forall_mem_nil _) (by decide +kernel) ⟨List.forall_mem_nil _, List.forall_mem_nil _, List.forall_mem_cons.mpr ⟨cl_stringS (y := y_jStr_isLatin1) (rs := ro_strs) rfl (by decide +kernel) rfl c_jStr_isLatin1_v143 wm_688 wm_11 wm_685 wm_686 wm_687 ⟨by decide, by decide, by decide +kernel⟩ (by decide), List.forall_mem_cons.mpr ⟨cl_static (y := y_jLat_charAt) c_jLat_charAt_v288 wm_691 wm_12 wm_689 wm_690 ⟨by decide, by decide, by decide +kernel⟩ (by decide), List.forall_mem_cons.mpr ⟨cl_value (i := 38) wm_3969 rfl (by decide +kernel) (by decide +kernel) (by decide +kernel), List.forall_mem_nil _⟩⟩⟩, List.forall_mem_nil _, List.forall_mem_nil _, GG_pl⟩ (by decide +kernel)
def e_jStr_charAt_v290 : en_T := ([(2, 0, 0, [5039]), (0, 0, 2, [])], some (0, 0, 65535, []), true, 4, 0, 0, [], [], (0, [], [], [], []))
def n_jStr_charAt_v290_an : List an_T := []
def t_jStr_charAt_v290_ct : ct_L := [(7, 492, e_jStr_isLatin1_v143), (39, 495, e_jLat_charAt_v291), (1000003, 9, en_ro [(2, 0, 0, [5039])] (2, 0, 0, [5239]))]
set_option maxRecDepth 100000 in
theorem c_jStr_charAt_v290 {l : Launch} {D : va_G} {kA : Nat → ClassId} : ct_ok l D kA GG y_jStr_charAt z_jStr_charAt e_jStr_charAt_v290 := chk_all_ok (FT := []) (PT := []) (CT := t_jStr_charAt_v290_ct) (KT := []) (NT := []) (AN := n_jStr_charAt_v290_an) (OT := []) 0 200 (List.forall_mem_nil _) (by decide +kernel) ⟨List.forall_mem_nil _, List.forall_mem_nil _, List.forall_mem_cons.mpr ⟨cl_stringS (y := y_jStr_isLatin1) (rs := ro_strs) rfl (by decide +kernel) rfl c_jStr_isLatin1_v143 wm_688 wm_11 wm_685 wm_686 wm_687 ⟨by decide, by decide, by decide +kernel⟩ (by decide), List.forall_mem_cons.mpr ⟨cl_static (y := y_jLat_charAt) c_jLat_charAt_v291 wm_691 wm_12 wm_689 wm_690 ⟨by decide, by decide, by decide +kernel⟩ (by decide), List.forall_mem_cons.mpr ⟨cl_value (i := 39) wm_3969 rfl (by decide +kernel) (by decide +kernel) (by decide +kernel), List.forall_mem_nil _⟩⟩⟩, List.forall_mem_nil _, List.forall_mem_nil _, GG_pl⟩ (by decide +kernel)
def e_jStr_charAt_v293 : en_T := ([(2, 0, 0, [5040]), (0, 0, 2, [])], some (0, 0, 65535, []), true, 4, 0, 0, [], [], (0, [], [], [], []))
def n_jStr_charAt_v293_an : List an_T := []
def t_jStr_charAt_v293_ct : ct_L := [(7, 492, e_jStr_isLatin1_v143), (39, 495, e_jLat_charAt_v294), (1000003, 9, en_ro [(2, 0, 0, [5040])] (2, 0, 0, [5240]))]
set_option maxRecDepth 100000 in
theorem c_jStr_charAt_v293 {l : Launch} {D : va_G} {kA : Nat → ClassId} : ct_ok l D kA GG y_jStr_charAt z_jStr_charAt e_jStr_charAt_v293 := chk_all_ok (FT := []) (PT := []) (CT := t_jStr_charAt_v293_ct) (KT := []) (NT := []) (AN := n_jStr_charAt_v293_an) (OT := []) 0 200 (List.forall_mem_nil _) (by decide +kernel) ⟨List.forall_mem_nil _, List.forall_mem_nil _, List.forall_mem_cons.mpr ⟨cl_stringS (y := y_jStr_isLatin1) (rs := ro_strs) rfl (by decide +kernel) rfl c_jStr_isLatin1_v143 wm_688 wm_11 wm_685 wm_686 wm_687 ⟨by decide, by decide, by decide +kernel⟩ (by decide), List.forall_mem_cons.mpr ⟨cl_static (y := y_jLat_charAt) c_jLat_charAt_v294 wm_691 wm_12 wm_689 wm_690 ⟨by decide, by decide, by decide +kernel⟩ (by decide), List.forall_mem_cons.mpr ⟨cl_value (i := 40) wm_3969 rfl (by decide +kernel) (by decide +kernel) (by decide +kernel), List.forall_mem_nil _⟩⟩⟩, List.forall_mem_nil _, List.forall_mem_nil _, GG_pl⟩ (by decide +kernel)
def e_jStr_charAt_v296 : en_T := ([(2, 0, 0, [5041]), (0, 0, 1, [])], some (0, 0, 65535, []), true, 4, 0, 0, [], [], (0, [], [], [], []))
def n_jStr_charAt_v296_an : List an_T := []
def t_jStr_charAt_v296_ct : ct_L := [(7, 492, e_jStr_isLatin1_v143), (39, 495, e_jLat_charAt_v297), (1000003, 9, en_ro [(2, 0, 0, [5041])] (2, 0, 0, [5241]))]
set_option maxRecDepth 100000 in
theorem c_jStr_charAt_v296 {l : Launch} {D : va_G} {kA : Nat → ClassId} : ct_ok l D kA GG y_jStr_charAt z_jStr_charAt e_jStr_charAt_v296 := chk_all_ok (FT := []) (PT := []) (CT := t_jStr_charAt_v296_ct) (KT := []) (NT := []) (AN := n_jStr_charAt_v296_an) (OT := []) 0 200 (List.forall_mem_nil _) (by decide +kernel) ⟨List.forall_mem_nil _, List.forall_mem_nil _, List.forall_mem_cons.mpr ⟨cl_stringS (y := y_jStr_isLatin1) (rs := ro_strs) rfl (by decide +kernel) rfl c_jStr_isLatin1_v143 wm_688 wm_11 wm_685 wm_686 wm_687 ⟨by decide, by decide, by decide +kernel⟩ (by decide), List.forall_mem_cons.mpr ⟨cl_static (y := y_jLat_charAt) c_jLat_charAt_v297 wm_691 wm_12 wm_689 wm_690 ⟨by decide, by decide, by decide +kernel⟩ (by decide), List.forall_mem_cons.mpr ⟨cl_value (i := 41) wm_3969 rfl (by decide +kernel) (by decide +kernel) (by decide +kernel), List.forall_mem_nil _⟩⟩⟩, List.forall_mem_nil _, List.forall_mem_nil _, GG_pl⟩ (by decide +kernel)
def e_jStr_charAt_v299 : en_T := ([(2, 0, 0, [5042]), (0, 0, 4, [])], some (0, 0, 65535, []), true, 4, 0, 0, [], [], (0, [], [], [], []))
def n_jStr_charAt_v299_an : List an_T := []
def t_jStr_charAt_v299_ct : ct_L := [(7, 492, e_jStr_isLatin1_v143), (39, 495, e_jLat_charAt_v300), (1000003, 9, en_ro [(2, 0, 0, [5042])] (2, 0, 0, [5242]))]
set_option maxRecDepth 100000 in
theorem c_jStr_charAt_v299 {l : Launch} {D : va_G} {kA : Nat → ClassId} : ct_ok l D kA GG y_jStr_charAt z_jStr_charAt e_jStr_charAt_v299 := chk_all_ok (FT := []) (PT := []) (CT := t_jStr_charAt_v299_ct) (KT := []) (NT := []) (AN := n_jStr_charAt_v299_an) (OT := []) 0 200 (List.forall_mem_nil _) (by decide +kernel) ⟨List.forall_mem_nil _, List.forall_mem_nil _, List.forall_mem_cons.mpr ⟨cl_stringS (y := y_jStr_isLatin1) (rs := ro_strs) rfl (by decide +kernel) rfl c_jStr_isLatin1_v143 wm_688 wm_11 wm_685 wm_686 wm_687 ⟨by decide, by decide, by decide +kernel⟩ (by decide), List.forall_mem_cons.mpr ⟨cl_static (y := y_jLat_charAt) c_jLat_charAt_v300 wm_691 wm_12 wm_689 wm_690 ⟨by decide, by decide, by decide +kernel⟩ (by decide), List.forall_mem_cons.mpr ⟨cl_value (i := 42) wm_3969 rfl (by decide +kernel) (by decide +kernel) (by decide +kernel), List.forall_mem_nil _⟩⟩⟩, List.forall_mem_nil _, List.forall_mem_nil _, GG_pl⟩ (by decide +kernel)
def e_jStr_charAt_v302 : en_T := ([(2, 0, 0, [5043]), (0, 0, 4, [])], some (0, 0, 65535, []), true, 4, 0, 0, [], [], (0, [], [], [], []))
def n_jStr_charAt_v302_an : List an_T := []
def t_jStr_charAt_v302_ct : ct_L := [(7, 492, e_jStr_isLatin1_v143), (39, 495, e_jLat_charAt_v303), (1000003, 9, en_ro [(2, 0, 0, [5043])] (2, 0, 0, [5243]))]
set_option maxRecDepth 100000 in
theorem c_jStr_charAt_v302 {l : Launch} {D : va_G} {kA : Nat → ClassId} : ct_ok l D kA GG y_jStr_charAt z_jStr_charAt e_jStr_charAt_v302 := chk_all_ok (FT := []) (PT := []) (CT := t_jStr_charAt_v302_ct) (KT := []) (NT := []) (AN := n_jStr_charAt_v302_an) (OT := []) 0 200 (List.forall_mem_nil _) (by decide +kernel) ⟨List.forall_mem_nil _, List.forall_mem_nil _, List.forall_mem_cons.mpr ⟨cl_stringS (y := y_jStr_isLatin1) (rs := ro_strs) rfl (by decide +kernel) rfl c_jStr_isLatin1_v143 wm_688 wm_11 wm_685 wm_686 wm_687 ⟨by decide, by decide, by decide +kernel⟩ (by decide), List.forall_mem_cons.mpr ⟨cl_static (y := y_jLat_charAt) c_jLat_charAt_v303 wm_691 wm_12 wm_689 wm_690 ⟨by decide, by decide, by decide +kernel⟩ (by decide), List.forall_mem_cons.mpr ⟨cl_value (i := 43) wm_3969 rfl (by decide +kernel) (by decide +kernel) (by decide +kernel), List.forall_mem_nil _⟩⟩⟩, List.forall_mem_nil _, List.forall_mem_nil _, GG_pl⟩ (by decide +kernel)
def e_jStr_charAt_v305 : en_T := ([(2, 0, 0, [5044]), (0, 0, 3, [])], some (0, 0, 65535, []), true, 4, 0, 0, [], [], (0, [], [], [], []))
def n_jStr_charAt_v305_an : List an_T := []
def t_jStr_charAt_v305_ct : ct_L := [(7, 492, e_jStr_isLatin1_v143), (39, 495, e_jLat_charAt_v306), (1000003, 9, en_ro [(2, 0, 0, [5044])] (2, 0, 0, [5244]))]
set_option maxRecDepth 100000 in
theorem c_jStr_charAt_v305 {l : Launch} {D : va_G} {kA : Nat → ClassId} : ct_ok l D kA GG y_jStr_charAt z_jStr_charAt e_jStr_charAt_v305 := chk_all_ok (FT := []) (PT := []) (CT := t_jStr_charAt_v305_ct) (KT := []) (NT := []) (AN := n_jStr_charAt_v305_an) (OT := []) 0 200 (List.forall_mem_nil _) (by decide +kernel) ⟨List.forall_mem_nil _, List.forall_mem_nil _, List.forall_mem_cons.mpr ⟨cl_stringS (y := y_jStr_isLatin1) (rs := ro_strs) rfl (by decide +kernel) rfl c_jStr_isLatin1_v143 wm_688 wm_11 wm_685 wm_686 wm_687 ⟨by decide, by decide, by decide +kernel⟩ (by decide), List.forall_mem_cons.mpr ⟨cl_static (y := y_jLat_charAt) c_jLat_charAt_v306 wm_691 wm_12 wm_689 wm_690 ⟨by decide, by decide, by decide +kernel⟩ (by decide), List.forall_mem_cons.mpr ⟨cl_value (i := 44) wm_3969 rfl (by decide +kernel) (by decide +kernel) (by decide +kernel), List.forall_mem_nil _⟩⟩⟩, List.forall_mem_nil _, List.forall_mem_nil _, GG_pl⟩ (by decide +kernel)
def e_jStr_charAt_v308 : en_T := ([(2, 0, 0, [5045]), (0, 0, 0, [])], some (0, 0, 65535, []), true, 4, 0, 0, [], [], (0, [], [], [], []))
def n_jStr_charAt_v308_an : List an_T := []
def t_jStr_charAt_v308_ct : ct_L := [(7, 492, e_jStr_isLatin1_v143), (39, 495, e_jLat_charAt_v309), (1000003, 9, en_ro [(2, 0, 0, [5045])] (2, 0, 0, [5245]))]
set_option maxRecDepth 100000 in
theorem c_jStr_charAt_v308 {l : Launch} {D : va_G} {kA : Nat → ClassId} : ct_ok l D kA GG y_jStr_charAt z_jStr_charAt e_jStr_charAt_v308 := chk_all_ok (FT := []) (PT := []) (CT := t_jStr_charAt_v308_ct) (KT := []) (NT := []) (AN := n_jStr_charAt_v308_an) (OT := []) 0 200 (List.forall_mem_nil _) (by decide +kernel) ⟨List.forall_mem_nil _, List.forall_mem_nil _, List.forall_mem_cons.mpr ⟨cl_stringS (y := y_jStr_isLatin1) (rs := ro_strs) rfl (by decide +kernel) rfl c_jStr_isLatin1_v143 wm_688 wm_11 wm_685 wm_686 wm_687 ⟨by decide, by decide, by decide +kernel⟩ (by decide), List.forall_mem_cons.mpr ⟨cl_static (y := y_jLat_charAt) c_jLat_charAt_v309 wm_691 wm_12 wm_689 wm_690 ⟨by decide, by decide, by decide +kernel⟩ (by decide), List.forall_mem_cons.mpr ⟨cl_value (i := 45) wm_3969 rfl (by decide +kernel) (by decide +kernel) (by decide +kernel), List.forall_mem_nil _⟩⟩⟩, List.forall_mem_nil _, List.forall_mem_nil _, GG_pl⟩ (by decide +kernel)
def e_acp_0 : en_T := ([(2, 0, 0, [109]), (0, 0, 2000, []), (2, 0, 0, [48]), (0, 0, 184, []), (0, 0, 8, [])], none, false, 1, 0, 0, [], [], (281474976710656, [], [(21, [1, 4], [2000]), (21, [3, 4], [192])], [], []))
def e_acp_1 : en_T := ([(2, 0, 0, [271]), (0, 0, 2000, []), (2, 0, 0, [48]), (0, 0, 184, []), (0, 0, 8, [])], none, false, 1, 0, 0, [], [], (281474976710656, [], [(21, [1, 4], [3]), (21, [3, 4], [192])], [], []))
def e_acp_2 : en_T := ([(2, 0, 0, [52]), (0, 0, 48, []), (2, 0, 0, [52]), (0, 0, 47, []), (0, 0, 47, [])], none, false, 1, 0, 0, [], [], (4503599627370496, [], [(21, [1, 4], [48]), (21, [3, 4], [48])], [], []))
def e_acp_3 : en_T := ([(2, 0, 0, [53]), (0, 0, 48, []), (2, 0, 0, [53]), (0, 0, 47, []), (0, 0, 47, [])], none, false, 1, 0, 0, [], [], (9007199254740992, [], [(21, [1, 4], [48]), (21, [3, 4], [48])], [], []))
def e_acp_4 : en_T := ([(2, 0, 0, [54]), (0, 0, 48, []), (2, 0, 0, [54]), (0, 0, 47, []), (0, 0, 47, [])], none, false, 1, 0, 0, [], [], (18014398509481984, [], [(21, [1, 4], [48]), (21, [3, 4], [48])], [], []))
def e_acp_5 : en_T := ([(2, 0, 0, [55]), (0, 0, 48, []), (2, 0, 0, [55]), (0, 0, 47, []), (0, 0, 47, [])], none, false, 1, 0, 0, [], [], (36028797018963968, [], [(21, [1, 4], [48]), (21, [3, 4], [48])], [], []))
def e_acp_6 : en_T := ([(2, 0, 0, [103]), (0, 0, 46, []), (2, 0, 0, [103]), (0, 0, 48, []), (0, 0, 48, [])], none, false, 1, 0, 0, [], [], (10141204801825835211973625643008, [], [(21, [1, 4], [24]), (21, [3, 4], [24])], [], []))
def e_acp_7 : en_T := ([(2, 0, 0, [106]), (0, 0, 0, []), (2, 0, 0, [103]), (0, 0, 24, []), (0, 0, 24, [])], none, false, 1, 0, 0, [], [], (10141204801825835211973625643008, [], [(21, [1, 4], [27]), (21, [3, 4], [24])], [], []))
def e_acp_20 : en_T := ([(2, 0, 0, [48]), (0, 0, 0, []), (2, 0, 0, [48]), (0, 0, 0, []), (0, 0, 192, [])], none, false, 1, 0, 0, [], [], (281474976710656, [], [(21, [1, 4], [192]), (21, [3, 4], [192])], [], []))
def e_acp_21 : en_T := ([(2, 0, 0, [49]), (0, 0, 0, []), (2, 0, 0, [49]), (0, 0, 0, []), (0, 0, 24, [])], none, false, 1, 0, 0, [], [], (562949953421312, [], [(21, [1, 4], [24]), (21, [3, 4], [24])], [], []))
def e_acp_22 : en_T := ([(2, 0, 0, [50]), (0, 0, 0, []), (2, 0, 0, [50]), (0, 0, 0, []), (0, 0, 24, [])], none, false, 1, 0, 0, [], [], (1125899906842624, [], [(21, [1, 4], [24]), (21, [3, 4], [24])], [], []))
def e_acp_23 : en_T := ([(2, 0, 0, [51]), (0, 0, 0, []), (2, 0, 0, [51]), (0, 0, 0, []), (0, 0, 24, [])], none, false, 1, 0, 0, [], [], (2251799813685248, [], [(21, [1, 4], [24]), (21, [3, 4], [24])], [], []))
def e_acp_24 : en_T := ([(2, 0, 0, [52]), (0, 0, 0, []), (2, 0, 0, [52]), (0, 0, 0, []), (0, 0, 48, [])], none, false, 1, 0, 0, [], [], (4503599627370496, [], [(21, [1, 4], [48]), (21, [3, 4], [48])], [], []))
def e_acp_25 : en_T := ([(2, 0, 0, [53]), (0, 0, 0, []), (2, 0, 0, [53]), (0, 0, 0, []), (0, 0, 48, [])], none, false, 1, 0, 0, [], [], (9007199254740992, [], [(21, [1, 4], [48]), (21, [3, 4], [48])], [], []))
def e_acp_26 : en_T := ([(2, 0, 0, [54]), (0, 0, 0, []), (2, 0, 0, [54]), (0, 0, 0, []), (0, 0, 48, [])], none, false, 1, 0, 0, [], [], (18014398509481984, [], [(21, [1, 4], [48]), (21, [3, 4], [48])], [], []))
def e_acp_27 : en_T := ([(2, 0, 0, [55]), (0, 0, 0, []), (2, 0, 0, [55]), (0, 0, 0, []), (0, 0, 48, [])], none, false, 1, 0, 0, [], [], (36028797018963968, [], [(21, [1, 4], [48]), (21, [3, 4], [48])], [], []))
def e_acp_28 : en_T := ([(2, 0, 0, [56]), (0, 0, 0, []), (2, 0, 0, [56]), (0, 0, 0, []), (0, 0, 8, [])], none, false, 1, 0, 0, [], [], (72057594037927936, [], [(21, [1, 4], [8]), (21, [3, 4], [8])], [], []))
def e_acp_29 : en_T := ([(2, 0, 0, [57]), (0, 0, 0, []), (2, 0, 0, [57]), (0, 0, 0, []), (0, 0, 64, [])], none, false, 1, 0, 0, [], [], (144115188075855872, [], [(21, [1, 4], [64]), (21, [3, 4], [64])], [], []))
def e_acp_30 : en_T := ([(2, 0, 0, [58]), (0, 0, 0, []), (2, 0, 0, [58]), (0, 0, 0, []), (0, 0, 8, [])], none, false, 1, 0, 0, [], [], (288230376151711744, [], [(21, [1, 4], [8]), (21, [3, 4], [8])], [], []))
def e_acp_31 : en_T := ([(2, 0, 0, [71]), (0, 0, 0, []), (2, 0, 0, [69]), (0, 0, 0, []), (0, 0, 72, [])], none, false, 1, 0, 0, [], [], (590295810358705651712, [], [(21, [1, 4], [72]), (21, [3, 4], [72])], [], []))
def e_acp_32 : en_T := ([(2, 0, 0, [69]), (0, 0, 0, []), (2, 0, 0, [71]), (0, 0, 0, []), (0, 0, 72, [])], none, false, 1, 0, 0, [], [], (2361183241434822606848, [], [(21, [1, 4], [72]), (21, [3, 4], [72])], [], []))
def e_acp_33 : en_T := ([(2, 0, 0, [84]), (0, 0, 0, []), (2, 0, 0, [84]), (0, 0, 0, []), (0, 0, 0, [])], none, false, 1, 0, 0, [], [], (19342813113834066795298816, [], [(21, [1, 4], [144]), (21, [3, 4], [144])], [], []))
def e_acp_34 : en_T := ([(2, 0, 0, [85]), (0, 0, 0, []), (2, 0, 0, [85]), (0, 0, 0, []), (0, 0, 24, [])], none, false, 1, 0, 0, [], [], (38685626227668133590597632, [], [(21, [1, 4], [25]), (21, [3, 4], [25])], [], []))
def e_acp_35 : en_T := ([(2, 0, 0, [84]), (0, 0, 0, []), (2, 0, 0, [84]), (0, 0, 0, []), (0, 0, 2, [])], none, false, 1, 0, 0, [], [], (19342813113834066795298816, [], [(21, [1, 4], [144]), (21, [3, 4], [144])], [], []))
def e_acp_36 : en_T := ([(2, 0, 0, [84]), (0, 0, 0, []), (2, 0, 0, [84]), (0, 0, 0, []), (0, 0, 4, [])], none, false, 1, 0, 0, [], [], (19342813113834066795298816, [], [(21, [1, 4], [144]), (21, [3, 4], [144])], [], []))
def e_acp_37 : en_T := ([(2, 0, 0, [84]), (0, 0, 0, []), (2, 0, 0, [84]), (0, 0, 0, []), (0, 0, 6, [])], none, false, 1, 0, 0, [], [], (19342813113834066795298816, [], [(21, [1, 4], [144]), (21, [3, 4], [144])], [], []))
def e_acp_38 : en_T := ([(2, 0, 0, [84]), (0, 0, 0, []), (2, 0, 0, [84]), (0, 0, 0, []), (0, 0, 8, [])], none, false, 1, 0, 0, [], [], (19342813113834066795298816, [], [(21, [1, 4], [144]), (21, [3, 4], [144])], [], []))
def e_acp_39 : en_T := ([(2, 0, 0, [84]), (0, 0, 0, []), (2, 0, 0, [84]), (0, 0, 0, []), (0, 0, 14, [])], none, false, 1, 0, 0, [], [], (19342813113834066795298816, [], [(21, [1, 4], [144]), (21, [3, 4], [144])], [], []))
def e_acp_40 : en_T := ([(2, 0, 0, [84]), (0, 0, 0, []), (2, 0, 0, [84]), (0, 0, 0, []), (0, 0, 16, [])], none, false, 1, 0, 0, [], [], (19342813113834066795298816, [], [(21, [1, 4], [144]), (21, [3, 4], [144])], [], []))
def e_acp_41 : en_T := ([(2, 0, 0, [84]), (0, 0, 0, []), (2, 0, 0, [84]), (0, 0, 0, []), (0, 0, 30, [])], none, false, 1, 0, 0, [], [], (19342813113834066795298816, [], [(21, [1, 4], [144]), (21, [3, 4], [144])], [], []))
def e_acp_42 : en_T := ([(2, 0, 0, [84]), (0, 0, 0, []), (2, 0, 0, [84]), (0, 0, 0, []), (0, 0, 32, [])], none, false, 1, 0, 0, [], [], (19342813113834066795298816, [], [(21, [1, 4], [144]), (21, [3, 4], [144])], [], []))
def e_acp_43 : en_T := ([(2, 0, 0, [84]), (0, 0, 0, []), (2, 0, 0, [84]), (0, 0, 0, []), (0, 0, 46, [])], none, false, 1, 0, 0, [], [], (19342813113834066795298816, [], [(21, [1, 4], [144]), (21, [3, 4], [144])], [], []))
def e_acp_44 : en_T := ([(2, 0, 0, [84]), (0, 0, 0, []), (2, 0, 0, [84]), (0, 0, 0, []), (0, 0, 48, [])], none, false, 1, 0, 0, [], [], (19342813113834066795298816, [], [(21, [1, 4], [144]), (21, [3, 4], [144])], [], []))
def e_acp_45 : en_T := ([(2, 0, 0, [84]), (0, 0, 0, []), (2, 0, 0, [84]), (0, 0, 0, []), (0, 0, 50, [])], none, false, 1, 0, 0, [], [], (19342813113834066795298816, [], [(21, [1, 4], [144]), (21, [3, 4], [144])], [], []))
def e_acp_46 : en_T := ([(2, 0, 0, [84]), (0, 0, 0, []), (2, 0, 0, [84]), (0, 0, 0, []), (0, 0, 52, [])], none, false, 1, 0, 0, [], [], (19342813113834066795298816, [], [(21, [1, 4], [144]), (21, [3, 4], [144])], [], []))
def e_acp_47 : en_T := ([(2, 0, 0, [84]), (0, 0, 0, []), (2, 0, 0, [84]), (0, 0, 0, []), (0, 0, 62, [])], none, false, 1, 0, 0, [], [], (19342813113834066795298816, [], [(21, [1, 4], [144]), (21, [3, 4], [144])], [], []))
def e_acp_48 : en_T := ([(2, 0, 0, [84]), (0, 0, 0, []), (2, 0, 0, [84]), (0, 0, 0, []), (0, 0, 64, [])], none, false, 1, 0, 0, [], [], (19342813113834066795298816, [], [(21, [1, 4], [144]), (21, [3, 4], [144])], [], []))
def e_acp_49 : en_T := ([(2, 0, 0, [84]), (0, 0, 0, []), (2, 0, 0, [84]), (0, 0, 0, []), (0, 0, 94, [])], none, false, 1, 0, 0, [], [], (19342813113834066795298816, [], [(21, [1, 4], [144]), (21, [3, 4], [144])], [], []))
def e_acp_50 : en_T := ([(2, 0, 0, [84]), (0, 0, 0, []), (2, 0, 0, [84]), (0, 0, 0, []), (0, 0, 96, [])], none, false, 1, 0, 0, [], [], (19342813113834066795298816, [], [(21, [1, 4], [144]), (21, [3, 4], [144])], [], []))
def e_acp_51 : en_T := ([(2, 0, 0, [84]), (0, 0, 0, []), (2, 0, 0, [84]), (0, 0, 0, []), (0, 0, 126, [])], none, false, 1, 0, 0, [], [], (19342813113834066795298816, [], [(21, [1, 4], [144]), (21, [3, 4], [144])], [], []))
def e_acp_52 : en_T := ([(2, 0, 0, [84]), (0, 0, 0, []), (2, 0, 0, [84]), (0, 0, 0, []), (0, 0, 128, [])], none, false, 1, 0, 0, [], [], (19342813113834066795298816, [], [(21, [1, 4], [144]), (21, [3, 4], [144])], [], []))
def e_acp_53 : en_T := ([(2, 0, 0, [84]), (0, 0, 0, []), (2, 0, 0, [84]), (0, 0, 0, []), (0, 0, 142, [])], none, false, 1, 0, 0, [], [], (19342813113834066795298816, [], [(21, [1, 4], [144]), (21, [3, 4], [144])], [], []))
def e_acp_54 : en_T := ([(2, 0, 0, [84]), (0, 0, 0, []), (2, 0, 0, [84]), (0, 0, 0, []), (0, 0, 144, [])], none, false, 1, 0, 0, [], [], (19342813113834066795298816, [], [(21, [1, 4], [144]), (21, [3, 4], [144])], [], []))
def e_acp_55 : en_T := ([(2, 0, 0, [89]), (0, 0, 0, []), (2, 0, 0, [90]), (0, 0, 0, []), (0, 0, 1, [])], none, false, 1, 0, 0, [], [], (1237940039285380274899124224, [], [(21, [1, 4], [24]), (21, [3, 4], [24])], [], []))
def e_acp_56 : en_T := ([(2, 0, 0, [89]), (0, 0, 0, []), (2, 0, 0, [90]), (0, 0, 0, []), (0, 0, 2, [])], none, false, 1, 0, 0, [], [], (1237940039285380274899124224, [], [(21, [1, 4], [24]), (21, [3, 4], [24])], [], []))
def e_acp_57 : en_T := ([(2, 0, 0, [89]), (0, 0, 0, []), (2, 0, 0, [90]), (0, 0, 0, []), (0, 0, 3, [])], none, false, 1, 0, 0, [], [], (1237940039285380274899124224, [], [(21, [1, 4], [24]), (21, [3, 4], [24])], [], []))
def e_acp_58 : en_T := ([(2, 0, 0, [89]), (0, 0, 0, []), (2, 0, 0, [90]), (0, 0, 0, []), (0, 0, 4, [])], none, false, 1, 0, 0, [], [], (1237940039285380274899124224, [], [(21, [1, 4], [24]), (21, [3, 4], [24])], [], []))
def e_acp_59 : en_T := ([(2, 0, 0, [89]), (0, 0, 0, []), (2, 0, 0, [90]), (0, 0, 0, []), (0, 0, 5, [])], none, false, 1, 0, 0, [], [], (1237940039285380274899124224, [], [(21, [1, 4], [24]), (21, [3, 4], [24])], [], []))
def e_acp_60 : en_T := ([(2, 0, 0, [89]), (0, 0, 0, []), (2, 0, 0, [90]), (0, 0, 0, []), (0, 0, 6, [])], none, false, 1, 0, 0, [], [], (1237940039285380274899124224, [], [(21, [1, 4], [24]), (21, [3, 4], [24])], [], []))
def e_acp_61 : en_T := ([(2, 0, 0, [89]), (0, 0, 0, []), (2, 0, 0, [90]), (0, 0, 0, []), (0, 0, 7, [])], none, false, 1, 0, 0, [], [], (1237940039285380274899124224, [], [(21, [1, 4], [24]), (21, [3, 4], [24])], [], []))
def e_acp_62 : en_T := ([(2, 0, 0, [89]), (0, 0, 0, []), (2, 0, 0, [90]), (0, 0, 0, []), (0, 0, 8, [])], none, false, 1, 0, 0, [], [], (1237940039285380274899124224, [], [(21, [1, 4], [24]), (21, [3, 4], [24])], [], []))
def e_acp_73 : en_T := ([(2, 0, 0, [48]), (0, 0, 192, []), (2, 0, 0, [48]), (0, 0, 184, []), (0, 0, 184, [])], none, false, 1, 0, 0, [], [], (281474976710656, [], [(21, [1, 4], [192]), (21, [3, 4], [192])], [], []))
def e_acp_74 : en_T := ([(2, 0, 0, [49]), (0, 0, 24, []), (2, 0, 0, [49]), (0, 0, 23, []), (0, 0, 23, [])], none, false, 1, 0, 0, [], [], (562949953421312, [], [(21, [1, 4], [24]), (21, [3, 4], [24])], [], []))
def e_acp_75 : en_T := ([(2, 0, 0, [50]), (0, 0, 24, []), (2, 0, 0, [50]), (0, 0, 23, []), (0, 0, 23, [])], none, false, 1, 0, 0, [], [], (1125899906842624, [], [(21, [1, 4], [24]), (21, [3, 4], [24])], [], []))
def e_acp_76 : en_T := ([(2, 0, 0, [51]), (0, 0, 24, []), (2, 0, 0, [51]), (0, 0, 23, []), (0, 0, 23, [])], none, false, 1, 0, 0, [], [], (2251799813685248, [], [(21, [1, 4], [24]), (21, [3, 4], [24])], [], []))
def e_acp_77 : en_T := ([(2, 0, 0, [269]), (0, 0, 0, []), (2, 0, 0, [135]), (0, 0, 0, []), (0, 0, 24, [])], none, false, 1, 0, 0, [], [], (43556142965880123323311949751266331066368, [], [(21, [1, 4], [24]), (21, [3, 4], [24])], [], []))
def e_acp_78 : en_T := ([(2, 0, 0, [89]), (0, 0, 0, []), (2, 0, 0, [90]), (0, 0, 0, []), (0, 0, 15, [])], none, false, 1, 0, 0, [], [], (1237940039285380274899124224, [], [(21, [1, 4], [24]), (21, [3, 4], [24])], [], []))
def e_acp_79 : en_T := ([(2, 0, 0, [89]), (0, 0, 0, []), (2, 0, 0, [90]), (0, 0, 0, []), (0, 0, 16, [])], none, false, 1, 0, 0, [], [], (1237940039285380274899124224, [], [(21, [1, 4], [24]), (21, [3, 4], [24])], [], []))
def e_acp_80 : en_T := ([(2, 0, 0, [89]), (0, 0, 0, []), (2, 0, 0, [90]), (0, 0, 0, []), (0, 0, 23, [])], none, false, 1, 0, 0, [], [], (1237940039285380274899124224, [], [(21, [1, 4], [24]), (21, [3, 4], [24])], [], []))
def e_acp_81 : en_T := ([(2, 0, 0, [89]), (0, 0, 0, []), (2, 0, 0, [90]), (0, 0, 0, []), (0, 0, 24, [])], none, false, 1, 0, 0, [], [], (1237940039285380274899124224, [], [(21, [1, 4], [24]), (21, [3, 4], [24])], [], []))
def e_acp_82 : en_T := ([(2, 0, 0, [61]), (0, 122, 122, []), (2, 0, 0, [61]), (0, 0, 0, []), (0, 3660, 3660, [])], none, false, 1, 0, 0, [], [], (2305843009213693952, [], [], [], []))
def e_acp_83 : en_T := ([(2, 0, 0, [22]), (0, 0, 96, []), (2, 0, 0, [97]), (0, 0, 0, []), (0, 0, 4, [])], none, false, 1, 0, 0, [], [], (158456325028528675187087900672, [], [(21, [1, 4], [128]), (21, [3, 4], [4])], [], []))
def e_acp_84 : en_T := ([(2, 0, 0, [22]), (0, 0, 100, []), (2, 0, 0, [97]), (0, 0, 0, []), (0, 0, 4, [])], none, false, 1, 0, 0, [], [], (158456325028528675187087900672, [], [(21, [1, 4], [128]), (21, [3, 4], [4])], [], []))
def e_acp_85 : en_T := ([(2, 0, 0, [22]), (0, 0, 104, []), (2, 0, 0, [97]), (0, 0, 0, []), (0, 0, 4, [])], none, false, 1, 0, 0, [], [], (158456325028528675187087900672, [], [(21, [1, 4], [128]), (21, [3, 4], [4])], [], []))
def e_acp_86 : en_T := ([(2, 0, 0, [22]), (0, 0, 108, []), (2, 0, 0, [97]), (0, 0, 0, []), (0, 0, 4, [])], none, false, 1, 0, 0, [], [], (158456325028528675187087900672, [], [(21, [1, 4], [128]), (21, [3, 4], [4])], [], []))
def e_acp_87 : en_T := ([(2, 0, 0, [22]), (0, 0, 112, []), (2, 0, 0, [97]), (0, 0, 0, []), (0, 0, 4, [])], none, false, 1, 0, 0, [], [], (158456325028528675187087900672, [], [(21, [1, 4], [128]), (21, [3, 4], [4])], [], []))
def e_acp_88 : en_T := ([(2, 0, 0, [22]), (0, 0, 124, []), (2, 0, 0, [97]), (0, 0, 0, []), (0, 0, 4, [])], none, false, 1, 0, 0, [], [], (158456325028528675187087900672, [], [(21, [1, 4], [128]), (21, [3, 4], [4])], [], []))
def e_acp_89 : en_T := ([(2, 0, 0, [109]), (0, 0, 2000, []), (2, 0, 0, [57]), (0, 0, 56, []), (0, 0, 64, [])], none, false, 1, 0, 0, [], [], (144115188075855872, [], [(21, [1, 4], [2000]), (21, [3, 4], [64])], [], []))
